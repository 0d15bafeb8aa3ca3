section
-- ===== PART A: goes FIRST, ahead of the names: the tables' words, and 'selects' of the private methods out of them =====
/-- a private method of a class that the tables say can be made, by its rows of tables_1 -/
def lw_okq (q : MethodName × Nat) : Prop := (q.1.cls ≠ "java/lang/invoke/MethodHandle" ∧ q.1.cls ≠ "java/lang/invoke/VarHandle") ∧ Cond.instantiable q.1.cls q.2 ∈ tables_1 ∧ Cond.privateMethod q.1 ∈ tables_1 ∧ Cond.instanceMethod q.1 ∈ tables_1
theorem lw_p0 : lw_okq (⟨"PassedCarry", "layOut", "([LPassedCarry$Row;III)I"⟩, 18) := ⟨⟨by decide +kernel, by decide +kernel⟩, List.mem_of_getElem? (i := 12) (by decide +kernel), List.mem_of_getElem? (i := 200) (by decide +kernel), List.mem_of_getElem? (i := 201) (by decide +kernel)⟩
theorem lw_p1 : lw_okq (⟨"PassedCarry", "found", "(I)I"⟩, 18) := ⟨⟨by decide +kernel, by decide +kernel⟩, List.mem_of_getElem? (i := 12) (by decide +kernel), List.mem_of_getElem? (i := 204) (by decide +kernel), List.mem_of_getElem? (i := 205) (by decide +kernel)⟩
theorem lw_p2 : lw_okq (⟨"PassedCarry", "refusalAt", "([LPassedCarry$Row;II)I"⟩, 18) := ⟨⟨by decide +kernel, by decide +kernel⟩, List.mem_of_getElem? (i := 12) (by decide +kernel), List.mem_of_getElem? (i := 217) (by decide +kernel), List.mem_of_getElem? (i := 218) (by decide +kernel)⟩
theorem lw_p3 : lw_okq (⟨"PassedCarry", "refusalOf", "([LPassedCarry$Row;I)I"⟩, 18) := ⟨⟨by decide +kernel, by decide +kernel⟩, List.mem_of_getElem? (i := 12) (by decide +kernel), List.mem_of_getElem? (i := 221) (by decide +kernel), List.mem_of_getElem? (i := 222) (by decide +kernel)⟩
theorem lw_p4 : lw_okq (⟨"PassedCarry$Reader", "skipBlanks", "()V"⟩, 3) := ⟨⟨by decide +kernel, by decide +kernel⟩, List.mem_of_getElem? (i := 279) (by decide +kernel), List.mem_of_getElem? (i := 304) (by decide +kernel), List.mem_of_getElem? (i := 305) (by decide +kernel)⟩
theorem lw_p5 : lw_okq (⟨"PassedCarry$Reader", "sign", "()I"⟩, 3) := ⟨⟨by decide +kernel, by decide +kernel⟩, List.mem_of_getElem? (i := 279) (by decide +kernel), List.mem_of_getElem? (i := 308) (by decide +kernel), List.mem_of_getElem? (i := 309) (by decide +kernel)⟩
theorem lw_p6 : lw_okq (⟨"PassedCarry$Reader", "readYards", "()Z"⟩, 3) := ⟨⟨by decide +kernel, by decide +kernel⟩, List.mem_of_getElem? (i := 279) (by decide +kernel), List.mem_of_getElem? (i := 313) (by decide +kernel), List.mem_of_getElem? (i := 314) (by decide +kernel)⟩
theorem lw_p7 : lw_okq (⟨"PassedCarry$Reader", "readRunner", "()Z"⟩, 3) := ⟨⟨by decide +kernel, by decide +kernel⟩, List.mem_of_getElem? (i := 279) (by decide +kernel), List.mem_of_getElem? (i := 320) (by decide +kernel), List.mem_of_getElem? (i := 321) (by decide +kernel)⟩
theorem lw_p8 : lw_okq (⟨"PassedCarry$Reader", "readPlan", "(I)Z"⟩, 3) := ⟨⟨by decide +kernel, by decide +kernel⟩, List.mem_of_getElem? (i := 279) (by decide +kernel), List.mem_of_getElem? (i := 327) (by decide +kernel), List.mem_of_getElem? (i := 328) (by decide +kernel)⟩
theorem lw_p9 : lw_okq (⟨"PassedCarry$Race", "noteEnd", "(LPassedCarry$Hill;I)V"⟩, 12) := ⟨⟨by decide +kernel, by decide +kernel⟩, List.mem_of_getElem? (i := 71) (by decide +kernel), List.mem_of_getElem? (i := 345) (by decide +kernel), List.mem_of_getElem? (i := 346) (by decide +kernel)⟩
theorem lw_p10 : lw_okq (⟨"PassedCarry", "isRunner", "(I)Z"⟩, 18) := ⟨⟨by decide +kernel, by decide +kernel⟩, List.mem_of_getElem? (i := 12) (by decide +kernel), List.mem_of_getElem? (i := 357) (by decide +kernel), List.mem_of_getElem? (i := 358) (by decide +kernel)⟩
theorem lw_p11 : lw_okq (⟨"PassedCarry$Race", "goBy", "(LPassedCarry$Hill;III)V"⟩, 12) := ⟨⟨by decide +kernel, by decide +kernel⟩, List.mem_of_getElem? (i := 71) (by decide +kernel), List.mem_of_getElem? (i := 425) (by decide +kernel), List.mem_of_getElem? (i := 426) (by decide +kernel)⟩
theorem lw_p12 : lw_okq (⟨"PassedCarry$Race", "breathAfter", "(IIII)I"⟩, 12) := ⟨⟨by decide +kernel, by decide +kernel⟩, List.mem_of_getElem? (i := 71) (by decide +kernel), List.mem_of_getElem? (i := 433) (by decide +kernel), List.mem_of_getElem? (i := 434) (by decide +kernel)⟩
theorem lw_p13 : lw_okq (⟨"PassedCarry$Race", "passOthers", "(IIII)V"⟩, 12) := ⟨⟨by decide +kernel, by decide +kernel⟩, List.mem_of_getElem? (i := 71) (by decide +kernel), List.mem_of_getElem? (i := 440) (by decide +kernel), List.mem_of_getElem? (i := 441) (by decide +kernel)⟩
theorem lw_p14 : lw_okq (⟨"PassedCarry$Race", "sackMoves", "(III)Z"⟩, 12) := ⟨⟨by decide +kernel, by decide +kernel⟩, List.mem_of_getElem? (i := 71) (by decide +kernel), List.mem_of_getElem? (i := 444) (by decide +kernel), List.mem_of_getElem? (i := 445) (by decide +kernel)⟩
theorem lw_p15 : lw_okq (⟨"PassedCarry$Race", "isAhead", "(II)Z"⟩, 12) := ⟨⟨by decide +kernel, by decide +kernel⟩, List.mem_of_getElem? (i := 71) (by decide +kernel), List.mem_of_getElem? (i := 460) (by decide +kernel), List.mem_of_getElem? (i := 461) (by decide +kernel)⟩
def lw_privs_1 : List (MethodName × Nat) := [(⟨"PassedCarry", "layOut", "([LPassedCarry$Row;III)I"⟩, 18), (⟨"PassedCarry", "found", "(I)I"⟩, 18), (⟨"PassedCarry", "refusalAt", "([LPassedCarry$Row;II)I"⟩, 18), (⟨"PassedCarry", "refusalOf", "([LPassedCarry$Row;I)I"⟩, 18), (⟨"PassedCarry$Reader", "skipBlanks", "()V"⟩, 3), (⟨"PassedCarry$Reader", "sign", "()I"⟩, 3), (⟨"PassedCarry$Reader", "readYards", "()Z"⟩, 3), (⟨"PassedCarry$Reader", "readRunner", "()Z"⟩, 3), (⟨"PassedCarry$Reader", "readPlan", "(I)Z"⟩, 3), (⟨"PassedCarry$Race", "noteEnd", "(LPassedCarry$Hill;I)V"⟩, 12), (⟨"PassedCarry", "isRunner", "(I)Z"⟩, 18), (⟨"PassedCarry$Race", "goBy", "(LPassedCarry$Hill;III)V"⟩, 12), (⟨"PassedCarry$Race", "breathAfter", "(IIII)I"⟩, 12), (⟨"PassedCarry$Race", "passOthers", "(IIII)V"⟩, 12), (⟨"PassedCarry$Race", "sackMoves", "(III)Z"⟩, 12), (⟨"PassedCarry$Race", "isAhead", "(II)Z"⟩, 12)]
theorem lw_r1 : ∀ q ∈ lw_privs_1, lw_okq q := List.forall_mem_cons.mpr ⟨lw_p0, List.forall_mem_cons.mpr ⟨lw_p1, List.forall_mem_cons.mpr ⟨lw_p2, List.forall_mem_cons.mpr ⟨lw_p3, List.forall_mem_cons.mpr ⟨lw_p4, List.forall_mem_cons.mpr ⟨lw_p5, List.forall_mem_cons.mpr ⟨lw_p6, List.forall_mem_cons.mpr ⟨lw_p7, List.forall_mem_cons.mpr ⟨lw_p8, List.forall_mem_cons.mpr ⟨lw_p9, List.forall_mem_cons.mpr ⟨lw_p10, List.forall_mem_cons.mpr ⟨lw_p11, List.forall_mem_cons.mpr ⟨lw_p12, List.forall_mem_cons.mpr ⟨lw_p13, List.forall_mem_cons.mpr ⟨lw_p14, List.forall_mem_cons.mpr ⟨lw_p15, fun _ h => absurd h List.not_mem_nil⟩⟩⟩⟩⟩⟩⟩⟩⟩⟩⟩⟩⟩⟩⟩⟩
theorem lw_p16 : lw_okq (⟨"PassedCarry", "finishTrial", "(I)V"⟩, 18) := ⟨⟨by decide +kernel, by decide +kernel⟩, List.mem_of_getElem? (i := 12) (by decide +kernel), List.mem_of_getElem? (i := 491) (by decide +kernel), List.mem_of_getElem? (i := 492) (by decide +kernel)⟩
theorem lw_p17 : lw_okq (⟨"PassedCarry", "tryChoices", "(IIII)V"⟩, 18) := ⟨⟨by decide +kernel, by decide +kernel⟩, List.mem_of_getElem? (i := 12) (by decide +kernel), List.mem_of_getElem? (i := 517) (by decide +kernel), List.mem_of_getElem? (i := 518) (by decide +kernel)⟩
theorem lw_p18 : lw_okq (⟨"PassedCarry", "tellFraction", "(JJ)V"⟩, 18) := ⟨⟨by decide +kernel, by decide +kernel⟩, List.mem_of_getElem? (i := 12) (by decide +kernel), List.mem_of_getElem? (i := 528) (by decide +kernel), List.mem_of_getElem? (i := 529) (by decide +kernel)⟩
theorem lw_p19 : lw_okq (⟨"PassedCarry", "settleDuel", "(I)I"⟩, 18) := ⟨⟨by decide +kernel, by decide +kernel⟩, List.mem_of_getElem? (i := 12) (by decide +kernel), List.mem_of_getElem? (i := 536) (by decide +kernel), List.mem_of_getElem? (i := 537) (by decide +kernel)⟩
theorem lw_p20 : lw_okq (⟨"PassedCarry", "placeOfLeast", "(I)I"⟩, 18) := ⟨⟨by decide +kernel, by decide +kernel⟩, List.mem_of_getElem? (i := 12) (by decide +kernel), List.mem_of_getElem? (i := 540) (by decide +kernel), List.mem_of_getElem? (i := 541) (by decide +kernel)⟩
theorem lw_p21 : lw_okq (⟨"PassedCarry", "placeOfMost", "(I)I"⟩, 18) := ⟨⟨by decide +kernel, by decide +kernel⟩, List.mem_of_getElem? (i := 12) (by decide +kernel), List.mem_of_getElem? (i := 544) (by decide +kernel), List.mem_of_getElem? (i := 545) (by decide +kernel)⟩
theorem lw_p22 : lw_okq (⟨"PassedCarry", "arePactOf", "(III)Z"⟩, 18) := ⟨⟨by decide +kernel, by decide +kernel⟩, List.mem_of_getElem? (i := 12) (by decide +kernel), List.mem_of_getElem? (i := 552) (by decide +kernel), List.mem_of_getElem? (i := 553) (by decide +kernel)⟩
theorem lw_p23 : lw_okq (⟨"PassedCarry", "runTrial", "([I[I)V"⟩, 18) := ⟨⟨by decide +kernel, by decide +kernel⟩, List.mem_of_getElem? (i := 12) (by decide +kernel), List.mem_of_getElem? (i := 570) (by decide +kernel), List.mem_of_getElem? (i := 571) (by decide +kernel)⟩
theorem lw_p24 : lw_okq (⟨"PassedCarry", "notePassers", "(IILPassedCarry$Row;)I"⟩, 18) := ⟨⟨by decide +kernel, by decide +kernel⟩, List.mem_of_getElem? (i := 12) (by decide +kernel), List.mem_of_getElem? (i := 598) (by decide +kernel), List.mem_of_getElem? (i := 599) (by decide +kernel)⟩
theorem lw_p25 : lw_okq (⟨"PassedCarry", "breathByLot", "(II)I"⟩, 18) := ⟨⟨by decide +kernel, by decide +kernel⟩, List.mem_of_getElem? (i := 12) (by decide +kernel), List.mem_of_getElem? (i := 622) (by decide +kernel), List.mem_of_getElem? (i := 623) (by decide +kernel)⟩
theorem lw_p26 : lw_okq (⟨"PassedCarry", "keptCount", "()I"⟩, 18) := ⟨⟨by decide +kernel, by decide +kernel⟩, List.mem_of_getElem? (i := 12) (by decide +kernel), List.mem_of_getElem? (i := 656) (by decide +kernel), List.mem_of_getElem? (i := 657) (by decide +kernel)⟩
theorem lw_p27 : lw_okq (⟨"PassedCarry", "digestRunner", "(JI)J"⟩, 18) := ⟨⟨by decide +kernel, by decide +kernel⟩, List.mem_of_getElem? (i := 12) (by decide +kernel), List.mem_of_getElem? (i := 678) (by decide +kernel), List.mem_of_getElem? (i := 679) (by decide +kernel)⟩
theorem lw_p28 : lw_okq (⟨"PassedCarryModel", "meets", "(I)I"⟩, 37) := ⟨⟨by decide +kernel, by decide +kernel⟩, List.mem_of_getElem? (i := 688) (by decide +kernel), List.mem_of_getElem? (i := 838) (by decide +kernel), List.mem_of_getElem? (i := 839) (by decide +kernel)⟩
theorem lw_p29 : lw_okq (⟨"PassedCarryModel", "rowAt", "(II)I"⟩, 37) := ⟨⟨by decide +kernel, by decide +kernel⟩, List.mem_of_getElem? (i := 688) (by decide +kernel), List.mem_of_getElem? (i := 846) (by decide +kernel), List.mem_of_getElem? (i := 847) (by decide +kernel)⟩
theorem lw_p30 : lw_okq (⟨"PassedCarryModel", "tells", "(II)I"⟩, 37) := ⟨⟨by decide +kernel, by decide +kernel⟩, List.mem_of_getElem? (i := 688) (by decide +kernel), List.mem_of_getElem? (i := 850) (by decide +kernel), List.mem_of_getElem? (i := 851) (by decide +kernel)⟩
theorem lw_p31 : lw_okq (⟨"PassedCarryModel", "faultOf", "(I)I"⟩, 37) := ⟨⟨by decide +kernel, by decide +kernel⟩, List.mem_of_getElem? (i := 688) (by decide +kernel), List.mem_of_getElem? (i := 885) (by decide +kernel), List.mem_of_getElem? (i := 886) (by decide +kernel)⟩
def lw_privs_2 : List (MethodName × Nat) := [(⟨"PassedCarry", "finishTrial", "(I)V"⟩, 18), (⟨"PassedCarry", "tryChoices", "(IIII)V"⟩, 18), (⟨"PassedCarry", "tellFraction", "(JJ)V"⟩, 18), (⟨"PassedCarry", "settleDuel", "(I)I"⟩, 18), (⟨"PassedCarry", "placeOfLeast", "(I)I"⟩, 18), (⟨"PassedCarry", "placeOfMost", "(I)I"⟩, 18), (⟨"PassedCarry", "arePactOf", "(III)Z"⟩, 18), (⟨"PassedCarry", "runTrial", "([I[I)V"⟩, 18), (⟨"PassedCarry", "notePassers", "(IILPassedCarry$Row;)I"⟩, 18), (⟨"PassedCarry", "breathByLot", "(II)I"⟩, 18), (⟨"PassedCarry", "keptCount", "()I"⟩, 18), (⟨"PassedCarry", "digestRunner", "(JI)J"⟩, 18), (⟨"PassedCarryModel", "meets", "(I)I"⟩, 37), (⟨"PassedCarryModel", "rowAt", "(II)I"⟩, 37), (⟨"PassedCarryModel", "tells", "(II)I"⟩, 37), (⟨"PassedCarryModel", "faultOf", "(I)I"⟩, 37)]
theorem lw_r2 : ∀ q ∈ lw_privs_2, lw_okq q := List.forall_mem_cons.mpr ⟨lw_p16, List.forall_mem_cons.mpr ⟨lw_p17, List.forall_mem_cons.mpr ⟨lw_p18, List.forall_mem_cons.mpr ⟨lw_p19, List.forall_mem_cons.mpr ⟨lw_p20, List.forall_mem_cons.mpr ⟨lw_p21, List.forall_mem_cons.mpr ⟨lw_p22, List.forall_mem_cons.mpr ⟨lw_p23, List.forall_mem_cons.mpr ⟨lw_p24, List.forall_mem_cons.mpr ⟨lw_p25, List.forall_mem_cons.mpr ⟨lw_p26, List.forall_mem_cons.mpr ⟨lw_p27, List.forall_mem_cons.mpr ⟨lw_p28, List.forall_mem_cons.mpr ⟨lw_p29, List.forall_mem_cons.mpr ⟨lw_p30, List.forall_mem_cons.mpr ⟨lw_p31, fun _ h => absurd h List.not_mem_nil⟩⟩⟩⟩⟩⟩⟩⟩⟩⟩⟩⟩⟩⟩⟩⟩
theorem lw_p32 : lw_okq (⟨"PassedCarryModel", "byteAt", "(II)I"⟩, 37) := ⟨⟨by decide +kernel, by decide +kernel⟩, List.mem_of_getElem? (i := 688) (by decide +kernel), List.mem_of_getElem? (i := 889) (by decide +kernel), List.mem_of_getElem? (i := 890) (by decide +kernel)⟩
theorem lw_p33 : lw_okq (⟨"PassedCarryModel", "readsRoad", "(I)Z"⟩, 37) := ⟨⟨by decide +kernel, by decide +kernel⟩, List.mem_of_getElem? (i := 688) (by decide +kernel), List.mem_of_getElem? (i := 893) (by decide +kernel), List.mem_of_getElem? (i := 894) (by decide +kernel)⟩
theorem lw_p34 : lw_okq (⟨"PassedCarryModel", "readsRunner", "(I)Z"⟩, 37) := ⟨⟨by decide +kernel, by decide +kernel⟩, List.mem_of_getElem? (i := 688) (by decide +kernel), List.mem_of_getElem? (i := 900) (by decide +kernel), List.mem_of_getElem? (i := 901) (by decide +kernel)⟩
theorem lw_p35 : lw_okq (⟨"PassedCarryModel", "look", "(I)V"⟩, 37) := ⟨⟨by decide +kernel, by decide +kernel⟩, List.mem_of_getElem? (i := 688) (by decide +kernel), List.mem_of_getElem? (i := 914) (by decide +kernel), List.mem_of_getElem? (i := 915) (by decide +kernel)⟩
theorem lw_p36 : lw_okq (⟨"PassedCarryModel", "begins", "()V"⟩, 37) := ⟨⟨by decide +kernel, by decide +kernel⟩, List.mem_of_getElem? (i := 688) (by decide +kernel), List.mem_of_getElem? (i := 918) (by decide +kernel), List.mem_of_getElem? (i := 919) (by decide +kernel)⟩
theorem lw_p37 : lw_okq (⟨"PassedCarryModel", "put", "(II)V"⟩, 37) := ⟨⟨by decide +kernel, by decide +kernel⟩, List.mem_of_getElem? (i := 688) (by decide +kernel), List.mem_of_getElem? (i := 922) (by decide +kernel), List.mem_of_getElem? (i := 923) (by decide +kernel)⟩
theorem lw_p38 : lw_okq (⟨"PassedCarryModel", "starts", "(III)V"⟩, 37) := ⟨⟨by decide +kernel, by decide +kernel⟩, List.mem_of_getElem? (i := 688) (by decide +kernel), List.mem_of_getElem? (i := 926) (by decide +kernel), List.mem_of_getElem? (i := 927) (by decide +kernel)⟩
theorem lw_p39 : lw_okq (⟨"PassedCarryModel", "isRunner", "(I)Z"⟩, 37) := ⟨⟨by decide +kernel, by decide +kernel⟩, List.mem_of_getElem? (i := 688) (by decide +kernel), List.mem_of_getElem? (i := 938) (by decide +kernel), List.mem_of_getElem? (i := 939) (by decide +kernel)⟩
theorem lw_p40 : lw_okq (⟨"PassedCarryModel", "aboutTells", "(II)I"⟩, 37) := ⟨⟨by decide +kernel, by decide +kernel⟩, List.mem_of_getElem? (i := 688) (by decide +kernel), List.mem_of_getElem? (i := 942) (by decide +kernel), List.mem_of_getElem? (i := 943) (by decide +kernel)⟩
theorem lw_p41 : lw_okq (⟨"PassedCarryModel", "isGoat", "(I)Z"⟩, 37) := ⟨⟨by decide +kernel, by decide +kernel⟩, List.mem_of_getElem? (i := 688) (by decide +kernel), List.mem_of_getElem? (i := 954) (by decide +kernel), List.mem_of_getElem? (i := 955) (by decide +kernel)⟩
theorem lw_p42 : lw_okq (⟨"PassedCarryModel", "isOx", "(I)Z"⟩, 37) := ⟨⟨by decide +kernel, by decide +kernel⟩, List.mem_of_getElem? (i := 688) (by decide +kernel), List.mem_of_getElem? (i := 958) (by decide +kernel), List.mem_of_getElem? (i := 959) (by decide +kernel)⟩
theorem lw_p43 : lw_okq (⟨"PassedCarryModel", "steepYards", "()I"⟩, 37) := ⟨⟨by decide +kernel, by decide +kernel⟩, List.mem_of_getElem? (i := 688) (by decide +kernel), List.mem_of_getElem? (i := 962) (by decide +kernel), List.mem_of_getElem? (i := 963) (by decide +kernel)⟩
theorem lw_p44 : lw_okq (⟨"PassedCarryModel", "pacesOf", "(II)I"⟩, 37) := ⟨⟨by decide +kernel, by decide +kernel⟩, List.mem_of_getElem? (i := 688) (by decide +kernel), List.mem_of_getElem? (i := 966) (by decide +kernel), List.mem_of_getElem? (i := 967) (by decide +kernel)⟩
theorem lw_p45 : lw_okq (⟨"PassedCarryModel", "noChoices", "()V"⟩, 37) := ⟨⟨by decide +kernel, by decide +kernel⟩, List.mem_of_getElem? (i := 688) (by decide +kernel), List.mem_of_getElem? (i := 986) (by decide +kernel), List.mem_of_getElem? (i := 987) (by decide +kernel)⟩
theorem lw_p46 : lw_okq (⟨"PassedCarryModel", "isEnd", "()Z"⟩, 37) := ⟨⟨by decide +kernel, by decide +kernel⟩, List.mem_of_getElem? (i := 688) (by decide +kernel), List.mem_of_getElem? (i := 990) (by decide +kernel), List.mem_of_getElem? (i := 991) (by decide +kernel)⟩
theorem lw_p47 : lw_okq (⟨"PassedCarryModel", "v", "(I)I"⟩, 37) := ⟨⟨by decide +kernel, by decide +kernel⟩, List.mem_of_getElem? (i := 688) (by decide +kernel), List.mem_of_getElem? (i := 994) (by decide +kernel), List.mem_of_getElem? (i := 995) (by decide +kernel)⟩
def lw_privs_3 : List (MethodName × Nat) := [(⟨"PassedCarryModel", "byteAt", "(II)I"⟩, 37), (⟨"PassedCarryModel", "readsRoad", "(I)Z"⟩, 37), (⟨"PassedCarryModel", "readsRunner", "(I)Z"⟩, 37), (⟨"PassedCarryModel", "look", "(I)V"⟩, 37), (⟨"PassedCarryModel", "begins", "()V"⟩, 37), (⟨"PassedCarryModel", "put", "(II)V"⟩, 37), (⟨"PassedCarryModel", "starts", "(III)V"⟩, 37), (⟨"PassedCarryModel", "isRunner", "(I)Z"⟩, 37), (⟨"PassedCarryModel", "aboutTells", "(II)I"⟩, 37), (⟨"PassedCarryModel", "isGoat", "(I)Z"⟩, 37), (⟨"PassedCarryModel", "isOx", "(I)Z"⟩, 37), (⟨"PassedCarryModel", "steepYards", "()I"⟩, 37), (⟨"PassedCarryModel", "pacesOf", "(II)I"⟩, 37), (⟨"PassedCarryModel", "noChoices", "()V"⟩, 37), (⟨"PassedCarryModel", "isEnd", "()Z"⟩, 37), (⟨"PassedCarryModel", "v", "(I)I"⟩, 37)]
theorem lw_r3 : ∀ q ∈ lw_privs_3, lw_okq q := List.forall_mem_cons.mpr ⟨lw_p32, List.forall_mem_cons.mpr ⟨lw_p33, List.forall_mem_cons.mpr ⟨lw_p34, List.forall_mem_cons.mpr ⟨lw_p35, List.forall_mem_cons.mpr ⟨lw_p36, List.forall_mem_cons.mpr ⟨lw_p37, List.forall_mem_cons.mpr ⟨lw_p38, List.forall_mem_cons.mpr ⟨lw_p39, List.forall_mem_cons.mpr ⟨lw_p40, List.forall_mem_cons.mpr ⟨lw_p41, List.forall_mem_cons.mpr ⟨lw_p42, List.forall_mem_cons.mpr ⟨lw_p43, List.forall_mem_cons.mpr ⟨lw_p44, List.forall_mem_cons.mpr ⟨lw_p45, List.forall_mem_cons.mpr ⟨lw_p46, List.forall_mem_cons.mpr ⟨lw_p47, fun _ h => absurd h List.not_mem_nil⟩⟩⟩⟩⟩⟩⟩⟩⟩⟩⟩⟩⟩⟩⟩⟩
theorem lw_p48 : lw_okq (⟨"PassedCarryModel", "doneMany", "()I"⟩, 37) := ⟨⟨by decide +kernel, by decide +kernel⟩, List.mem_of_getElem? (i := 688) (by decide +kernel), List.mem_of_getElem? (i := 998) (by decide +kernel), List.mem_of_getElem? (i := 999) (by decide +kernel)⟩
theorem lw_p49 : lw_okq (⟨"PassedCarryModel", "isDone", "(I)Z"⟩, 37) := ⟨⟨by decide +kernel, by decide +kernel⟩, List.mem_of_getElem? (i := 688) (by decide +kernel), List.mem_of_getElem? (i := 1002) (by decide +kernel), List.mem_of_getElem? (i := 1003) (by decide +kernel)⟩
theorem lw_p50 : lw_okq (⟨"PassedCarryModel", "step", "()V"⟩, 37) := ⟨⟨by decide +kernel, by decide +kernel⟩, List.mem_of_getElem? (i := 688) (by decide +kernel), List.mem_of_getElem? (i := 1006) (by decide +kernel), List.mem_of_getElem? (i := 1007) (by decide +kernel)⟩
theorem lw_p51 : lw_okq (⟨"PassedCarryModel", "goesOn", "(I)V"⟩, 37) := ⟨⟨by decide +kernel, by decide +kernel⟩, List.mem_of_getElem? (i := 688) (by decide +kernel), List.mem_of_getElem? (i := 1010) (by decide +kernel), List.mem_of_getElem? (i := 1011) (by decide +kernel)⟩
theorem lw_p52 : lw_okq (⟨"PassedCarryModel", "wanted", "(I)I"⟩, 37) := ⟨⟨by decide +kernel, by decide +kernel⟩, List.mem_of_getElem? (i := 688) (by decide +kernel), List.mem_of_getElem? (i := 1014) (by decide +kernel), List.mem_of_getElem? (i := 1015) (by decide +kernel)⟩
theorem lw_p53 : lw_okq (⟨"PassedCarryModel", "breathBy", "(II)I"⟩, 37) := ⟨⟨by decide +kernel, by decide +kernel⟩, List.mem_of_getElem? (i := 688) (by decide +kernel), List.mem_of_getElem? (i := 1018) (by decide +kernel), List.mem_of_getElem? (i := 1019) (by decide +kernel)⟩
theorem lw_p54 : lw_okq (⟨"PassedCarryModel", "passes", "(III)V"⟩, 37) := ⟨⟨by decide +kernel, by decide +kernel⟩, List.mem_of_getElem? (i := 688) (by decide +kernel), List.mem_of_getElem? (i := 1025) (by decide +kernel), List.mem_of_getElem? (i := 1026) (by decide +kernel)⟩
theorem lw_p55 : lw_okq (⟨"PassedCarryModel", "raceTells", "(II)I"⟩, 37) := ⟨⟨by decide +kernel, by decide +kernel⟩, List.mem_of_getElem? (i := 688) (by decide +kernel), List.mem_of_getElem? (i := 1033) (by decide +kernel), List.mem_of_getElem? (i := 1034) (by decide +kernel)⟩
theorem lw_p56 : lw_okq (⟨"PassedCarryModel", "rankOf", "(I)I"⟩, 37) := ⟨⟨by decide +kernel, by decide +kernel⟩, List.mem_of_getElem? (i := 688) (by decide +kernel), List.mem_of_getElem? (i := 1037) (by decide +kernel), List.mem_of_getElem? (i := 1038) (by decide +kernel)⟩
theorem lw_p57 : lw_okq (⟨"PassedCarryModel", "isAhead", "(II)Z"⟩, 37) := ⟨⟨by decide +kernel, by decide +kernel⟩, List.mem_of_getElem? (i := 688) (by decide +kernel), List.mem_of_getElem? (i := 1041) (by decide +kernel), List.mem_of_getElem? (i := 1042) (by decide +kernel)⟩
theorem lw_p58 : lw_okq (⟨"PassedCarryModel", "copyRace", "(II)V"⟩, 37) := ⟨⟨by decide +kernel, by decide +kernel⟩, List.mem_of_getElem? (i := 688) (by decide +kernel), List.mem_of_getElem? (i := 1057) (by decide +kernel), List.mem_of_getElem? (i := 1058) (by decide +kernel)⟩
theorem lw_p59 : lw_okq (⟨"PassedCarryModel", "layEnd", "()V"⟩, 37) := ⟨⟨by decide +kernel, by decide +kernel⟩, List.mem_of_getElem? (i := 688) (by decide +kernel), List.mem_of_getElem? (i := 1069) (by decide +kernel), List.mem_of_getElem? (i := 1070) (by decide +kernel)⟩
theorem lw_p60 : lw_okq (⟨"PassedCarryModel", "toEnd", "()V"⟩, 37) := ⟨⟨by decide +kernel, by decide +kernel⟩, List.mem_of_getElem? (i := 688) (by decide +kernel), List.mem_of_getElem? (i := 1073) (by decide +kernel), List.mem_of_getElem? (i := 1074) (by decide +kernel)⟩
theorem lw_p61 : lw_okq (⟨"PassedCarryModel", "choicesBegin", "()V"⟩, 37) := ⟨⟨by decide +kernel, by decide +kernel⟩, List.mem_of_getElem? (i := 688) (by decide +kernel), List.mem_of_getElem? (i := 1092) (by decide +kernel), List.mem_of_getElem? (i := 1093) (by decide +kernel)⟩
theorem lw_p62 : lw_okq (⟨"PassedCarryModel", "layChoices", "(III)V"⟩, 37) := ⟨⟨by decide +kernel, by decide +kernel⟩, List.mem_of_getElem? (i := 688) (by decide +kernel), List.mem_of_getElem? (i := 1099) (by decide +kernel), List.mem_of_getElem? (i := 1100) (by decide +kernel)⟩
theorem lw_p63 : lw_okq (⟨"PassedCarryModel", "fraction", "(JJI)I"⟩, 37) := ⟨⟨by decide +kernel, by decide +kernel⟩, List.mem_of_getElem? (i := 688) (by decide +kernel), List.mem_of_getElem? (i := 1107) (by decide +kernel), List.mem_of_getElem? (i := 1108) (by decide +kernel)⟩
def lw_privs_4 : List (MethodName × Nat) := [(⟨"PassedCarryModel", "doneMany", "()I"⟩, 37), (⟨"PassedCarryModel", "isDone", "(I)Z"⟩, 37), (⟨"PassedCarryModel", "step", "()V"⟩, 37), (⟨"PassedCarryModel", "goesOn", "(I)V"⟩, 37), (⟨"PassedCarryModel", "wanted", "(I)I"⟩, 37), (⟨"PassedCarryModel", "breathBy", "(II)I"⟩, 37), (⟨"PassedCarryModel", "passes", "(III)V"⟩, 37), (⟨"PassedCarryModel", "raceTells", "(II)I"⟩, 37), (⟨"PassedCarryModel", "rankOf", "(I)I"⟩, 37), (⟨"PassedCarryModel", "isAhead", "(II)Z"⟩, 37), (⟨"PassedCarryModel", "copyRace", "(II)V"⟩, 37), (⟨"PassedCarryModel", "layEnd", "()V"⟩, 37), (⟨"PassedCarryModel", "toEnd", "()V"⟩, 37), (⟨"PassedCarryModel", "choicesBegin", "()V"⟩, 37), (⟨"PassedCarryModel", "layChoices", "(III)V"⟩, 37), (⟨"PassedCarryModel", "fraction", "(JJI)I"⟩, 37)]
theorem lw_r4 : ∀ q ∈ lw_privs_4, lw_okq q := List.forall_mem_cons.mpr ⟨lw_p48, List.forall_mem_cons.mpr ⟨lw_p49, List.forall_mem_cons.mpr ⟨lw_p50, List.forall_mem_cons.mpr ⟨lw_p51, List.forall_mem_cons.mpr ⟨lw_p52, List.forall_mem_cons.mpr ⟨lw_p53, List.forall_mem_cons.mpr ⟨lw_p54, List.forall_mem_cons.mpr ⟨lw_p55, List.forall_mem_cons.mpr ⟨lw_p56, List.forall_mem_cons.mpr ⟨lw_p57, List.forall_mem_cons.mpr ⟨lw_p58, List.forall_mem_cons.mpr ⟨lw_p59, List.forall_mem_cons.mpr ⟨lw_p60, List.forall_mem_cons.mpr ⟨lw_p61, List.forall_mem_cons.mpr ⟨lw_p62, List.forall_mem_cons.mpr ⟨lw_p63, fun _ h => absurd h List.not_mem_nil⟩⟩⟩⟩⟩⟩⟩⟩⟩⟩⟩⟩⟩⟩⟩⟩
theorem lw_p64 : lw_okq (⟨"PassedCarryModel", "layBoth", "(IIII)V"⟩, 37) := ⟨⟨by decide +kernel, by decide +kernel⟩, List.mem_of_getElem? (i := 688) (by decide +kernel), List.mem_of_getElem? (i := 1115) (by decide +kernel), List.mem_of_getElem? (i := 1116) (by decide +kernel)⟩
theorem lw_p65 : lw_okq (⟨"PassedCarryModel", "layPact", "(IIII)V"⟩, 37) := ⟨⟨by decide +kernel, by decide +kernel⟩, List.mem_of_getElem? (i := 688) (by decide +kernel), List.mem_of_getElem? (i := 1123) (by decide +kernel), List.mem_of_getElem? (i := 1124) (by decide +kernel)⟩
theorem lw_p66 : lw_okq (⟨"PassedCarryModel", "layWhole", "()V"⟩, 37) := ⟨⟨by decide +kernel, by decide +kernel⟩, List.mem_of_getElem? (i := 688) (by decide +kernel), List.mem_of_getElem? (i := 1138) (by decide +kernel), List.mem_of_getElem? (i := 1139) (by decide +kernel)⟩
theorem lw_p67 : lw_okq (⟨"PassedCarryModel", "runnersIn", "(I)I"⟩, 37) := ⟨⟨by decide +kernel, by decide +kernel⟩, List.mem_of_getElem? (i := 688) (by decide +kernel), List.mem_of_getElem? (i := 1160) (by decide +kernel), List.mem_of_getElem? (i := 1161) (by decide +kernel)⟩
theorem lw_p68 : lw_okq (⟨"PassedCarryModel", "placeIn", "(II)I"⟩, 37) := ⟨⟨by decide +kernel, by decide +kernel⟩, List.mem_of_getElem? (i := 688) (by decide +kernel), List.mem_of_getElem? (i := 1164) (by decide +kernel), List.mem_of_getElem? (i := 1165) (by decide +kernel)⟩
theorem lw_p69 : lw_okq (⟨"PassedCarryModel", "counted", "(I)I"⟩, 37) := ⟨⟨by decide +kernel, by decide +kernel⟩, List.mem_of_getElem? (i := 688) (by decide +kernel), List.mem_of_getElem? (i := 1184) (by decide +kernel), List.mem_of_getElem? (i := 1185) (by decide +kernel)⟩
theorem lw_p70 : lw_okq (⟨"PassedCarryModel", "mix", "(J)V"⟩, 37) := ⟨⟨by decide +kernel, by decide +kernel⟩, List.mem_of_getElem? (i := 688) (by decide +kernel), List.mem_of_getElem? (i := 1193) (by decide +kernel), List.mem_of_getElem? (i := 1194) (by decide +kernel)⟩
theorem lw_p71 : lw_okq (⟨"PassedCarryModel", "mixRace", "()V"⟩, 37) := ⟨⟨by decide +kernel, by decide +kernel⟩, List.mem_of_getElem? (i := 688) (by decide +kernel), List.mem_of_getElem? (i := 1198) (by decide +kernel), List.mem_of_getElem? (i := 1199) (by decide +kernel)⟩
def lw_privs_5 : List (MethodName × Nat) := [(⟨"PassedCarryModel", "layBoth", "(IIII)V"⟩, 37), (⟨"PassedCarryModel", "layPact", "(IIII)V"⟩, 37), (⟨"PassedCarryModel", "layWhole", "()V"⟩, 37), (⟨"PassedCarryModel", "runnersIn", "(I)I"⟩, 37), (⟨"PassedCarryModel", "placeIn", "(II)I"⟩, 37), (⟨"PassedCarryModel", "counted", "(I)I"⟩, 37), (⟨"PassedCarryModel", "mix", "(J)V"⟩, 37), (⟨"PassedCarryModel", "mixRace", "()V"⟩, 37)]
theorem lw_r5 : ∀ q ∈ lw_privs_5, lw_okq q := List.forall_mem_cons.mpr ⟨lw_p64, List.forall_mem_cons.mpr ⟨lw_p65, List.forall_mem_cons.mpr ⟨lw_p66, List.forall_mem_cons.mpr ⟨lw_p67, List.forall_mem_cons.mpr ⟨lw_p68, List.forall_mem_cons.mpr ⟨lw_p69, List.forall_mem_cons.mpr ⟨lw_p70, List.forall_mem_cons.mpr ⟨lw_p71, fun _ h => absurd h List.not_mem_nil⟩⟩⟩⟩⟩⟩⟩⟩
def lw_privs : List (MethodName × Nat) := lw_privs_1 ++ (lw_privs_2 ++ (lw_privs_3 ++ (lw_privs_4 ++ (lw_privs_5))))
def lw_tbl : List Cond := k2_sels lw_privs ++ tables_1
theorem lw_privs_ok : ∀ q ∈ lw_privs, lw_okq q := by
  show ∀ q ∈ lw_privs_1 ++ (lw_privs_2 ++ (lw_privs_3 ++ (lw_privs_4 ++ (lw_privs_5)))), lw_okq q
  exact List.forall_mem_append.mpr ⟨lw_r1, List.forall_mem_append.mpr ⟨lw_r2, List.forall_mem_append.mpr ⟨lw_r3, List.forall_mem_append.mpr ⟨lw_r4, lw_r5⟩⟩⟩⟩
end
section
def RX0 : String := "PassedCarry$Hill"
def TX0 : u_T := fun k => match k with
  | 0 => ("PassedCarry$Hill", "yards", "I", false)
  | 1 => ("PassedCarry$Hill", "slopes", "[I", true)
  | 2 => ("PassedCarry$Hill", "runners", "I", false)
  | 3 => ("PassedCarry$Hill", "kinds", "[I", true)
  | 4 => ("PassedCarry$Hill", "breaths", "[I", true)
  | 5 => ("PassedCarry$Hill", "heads", "[I", true)
  | 6 => ("PassedCarry$Hill", "planSizes", "[I", true)
  | _ => ("PassedCarry$Hill", "plans", "[I", true)
def tyX0 : Nat → FieldType := fun k => match k with
  | 0 => .int
  | 1 => .array .int
  | 2 => .int
  | 3 => .array .int
  | 4 => .array .int
  | 5 => .array .int
  | 6 => .array .int
  | _ => .array .int
abbrev wsX00 : List Cond := u_ws RX0 TX0 8
theorem nmX0 : ∀ a, a < 8 → ∀ b, b < 8 → a ≠ b → (TX0 a).2.1 ≠ (TX0 b).2.1 := by decide +kernel
theorem tyX0_ok : ∀ k, k < 8 → parseFieldDescriptor (TX0 k).2.2.1 = some (tyX0 k) := by decide +kernel
abbrev cX0_init : ByteArray := prog_2_method_1_code
def yX0_init : MethodName := ⟨RX0, "<init>", "()V"⟩
abbrev cX0_isOf : ByteArray := prog_2_method_2_code
def yX0_isOf : MethodName := ⟨RX0, "isOf", "(II)Z"⟩
abbrev cX0_clear : ByteArray := prog_2_method_3_code
def yX0_clear : MethodName := ⟨RX0, "clear", "()V"⟩
abbrev cX0_hasRoad : ByteArray := prog_2_method_4_code
def yX0_hasRoad : MethodName := ⟨RX0, "hasRoad", "()Z"⟩
abbrev cX0_slopeAt : ByteArray := prog_2_method_5_code
def yX0_slopeAt : MethodName := ⟨RX0, "slopeAt", "(I)I"⟩
abbrev cX0_paceAt : ByteArray := prog_2_method_6_code
def yX0_paceAt : MethodName := ⟨RX0, "paceAt", "(II)I"⟩
abbrev cX0_plannedPace : ByteArray := prog_2_method_7_code
def yX0_plannedPace : MethodName := ⟨RX0, "plannedPace", "(II)I"⟩
abbrev cX0_pacesOf : ByteArray := prog_2_method_8_code
def yX0_pacesOf : MethodName := ⟨RX0, "pacesOf", "(II)I"⟩
abbrev cX0_climbs : ByteArray := prog_2_method_9_code
def yX0_climbs : MethodName := ⟨RX0, "climbs", "()I"⟩
abbrev cX0_goats : ByteArray := prog_2_method_10_code
def yX0_goats : MethodName := ⟨RX0, "goats", "()I"⟩
abbrev cX0_detail : ByteArray := prog_2_method_11_code
def yX0_detail : MethodName := ⟨RX0, "detail", "(II)I"⟩
def RX1 : String := "PassedCarry$Race"
def TX1 : u_T := fun k => match k with
  | 0 => ("PassedCarry$Race", "runners", "I", false)
  | 1 => ("PassedCarry$Race", "steps", "I", false)
  | 2 => ("PassedCarry$Race", "done", "I", false)
  | 3 => ("PassedCarry$Race", "holder", "I", false)
  | 4 => ("PassedCarry$Race", "passings", "I", false)
  | 5 => ("PassedCarry$Race", "isKept", "Z", false)
  | 6 => ("PassedCarry$Race", "yard", "[I", true)
  | 7 => ("PassedCarry$Race", "breath", "[I", true)
  | 8 => ("PassedCarry$Race", "mostBreath", "[I", true)
  | 9 => ("PassedCarry$Race", "doneIn", "[I", true)
  | 10 => ("PassedCarry$Race", "carried", "[I", true)
  | _ => ("PassedCarry$Race", "passedBits", "[I", true)
def tyX1 : Nat → FieldType := fun k => match k with
  | 0 => .int
  | 1 => .int
  | 2 => .int
  | 3 => .int
  | 4 => .int
  | 5 => .boolean
  | 6 => .array .int
  | 7 => .array .int
  | 8 => .array .int
  | 9 => .array .int
  | 10 => .array .int
  | _ => .array .int
abbrev wsX10 : List Cond := u_ws RX1 TX1 12
theorem nmX1 : ∀ a, a < 12 → ∀ b, b < 12 → a ≠ b → (TX1 a).2.1 ≠ (TX1 b).2.1 := by decide +kernel
theorem tyX1_ok : ∀ k, k < 12 → parseFieldDescriptor (TX1 k).2.2.1 = some (tyX1 k) := by decide +kernel
abbrev cX1_init : ByteArray := prog_3_method_1_code
def yX1_init : MethodName := ⟨RX1, "<init>", "()V"⟩
abbrev cX1_setOff : ByteArray := prog_3_method_2_code
def yX1_setOff : MethodName := ⟨RX1, "setOff", "(LPassedCarry$Hill;[I[I)V"⟩
abbrev cX1_becomeLike : ByteArray := prog_3_method_3_code
def yX1_becomeLike : MethodName := ⟨RX1, "becomeLike", "(LPassedCarry$Race;)V"⟩
abbrev cX1_isOver : ByteArray := prog_3_method_4_code
def yX1_isOver : MethodName := ⟨RX1, "isOver", "()Z"⟩
abbrev cX1_isDone : ByteArray := prog_3_method_5_code
def yX1_isDone : MethodName := ⟨RX1, "isDone", "(I)Z"⟩
abbrev cX1_runOut : ByteArray := prog_3_method_6_code
def yX1_runOut : MethodName := ⟨RX1, "runOut", "(LPassedCarry$Hill;I[I)V"⟩
abbrev cX1_takeStep : ByteArray := prog_3_method_7_code
def yX1_takeStep : MethodName := ⟨RX1, "takeStep", "(LPassedCarry$Hill;I[I)V"⟩
abbrev cX1_goBy : ByteArray := prog_3_method_8_code
def yX1_goBy : MethodName := ⟨RX1, "goBy", "(LPassedCarry$Hill;III)V"⟩
abbrev cX1_breathAfter : ByteArray := prog_3_method_9_code
def yX1_breathAfter : MethodName := ⟨RX1, "breathAfter", "(IIII)I"⟩
abbrev cX1_passOthers : ByteArray := prog_3_method_10_code
def yX1_passOthers : MethodName := ⟨RX1, "passOthers", "(IIII)V"⟩
abbrev cX1_sackMoves : ByteArray := prog_3_method_11_code
def yX1_sackMoves : MethodName := ⟨RX1, "sackMoves", "(III)Z"⟩
abbrev cX1_noteEnd : ByteArray := prog_3_method_12_code
def yX1_noteEnd : MethodName := ⟨RX1, "noteEnd", "(LPassedCarry$Hill;I)V"⟩
abbrev cX1_rankOf : ByteArray := prog_3_method_13_code
def yX1_rankOf : MethodName := ⟨RX1, "rankOf", "(I)I"⟩
abbrev cX1_isAhead : ByteArray := prog_3_method_14_code
def yX1_isAhead : MethodName := ⟨RX1, "isAhead", "(II)Z"⟩
abbrev cX1_apart : ByteArray := prog_3_method_15_code
def yX1_apart : MethodName := ⟨RX1, "apart", "()I"⟩
abbrev cX1_detail : ByteArray := prog_3_method_16_code
def yX1_detail : MethodName := ⟨RX1, "detail", "(II)I"⟩
def RX2 : String := "PassedCarry$Reader"
def TX2 : u_T := fun k => match k with
  | 0 => ("PassedCarry$Reader", "source", "LPassedCarry$Row;", true)
  | 1 => ("PassedCarry$Reader", "target", "LPassedCarry$Hill;", true)
  | _ => ("PassedCarry$Reader", "place", "I", false)
def tyX2 : Nat → FieldType := fun k => match k with
  | 0 => .object "PassedCarry$Row"
  | 1 => .object "PassedCarry$Hill"
  | _ => .int
abbrev wsX20 : List Cond := u_ws RX2 TX2 3
theorem nmX2 : ∀ a, a < 3 → ∀ b, b < 3 → a ≠ b → (TX2 a).2.1 ≠ (TX2 b).2.1 := by decide +kernel
theorem tyX2_ok : ∀ k, k < 3 → parseFieldDescriptor (TX2 k).2.2.1 = some (tyX2 k) := by decide +kernel
abbrev cX2_init : ByteArray := prog_4_method_1_code
def yX2_init : MethodName := ⟨RX2, "<init>", "(LPassedCarry$Row;LPassedCarry$Hill;)V"⟩
abbrev cX2_readHill : ByteArray := prog_4_method_2_code
def yX2_readHill : MethodName := ⟨RX2, "readHill", "()I"⟩
abbrev cX2_sign : ByteArray := prog_4_method_3_code
def yX2_sign : MethodName := ⟨RX2, "sign", "()I"⟩
abbrev cX2_skipBlanks : ByteArray := prog_4_method_4_code
def yX2_skipBlanks : MethodName := ⟨RX2, "skipBlanks", "()V"⟩
abbrev cX2_readYards : ByteArray := prog_4_method_5_code
def yX2_readYards : MethodName := ⟨RX2, "readYards", "()Z"⟩
abbrev cX2_readRunner : ByteArray := prog_4_method_6_code
def yX2_readRunner : MethodName := ⟨RX2, "readRunner", "()Z"⟩
abbrev cX2_readPlan : ByteArray := prog_4_method_7_code
def yX2_readPlan : MethodName := ⟨RX2, "readPlan", "(I)Z"⟩
abbrev cX2_slopeOf : ByteArray := prog_4_method_8_code
def yX2_slopeOf : MethodName := ⟨RX2, "slopeOf", "(I)I"⟩
abbrev cX2_kindOf : ByteArray := prog_4_method_9_code
def yX2_kindOf : MethodName := ⟨RX2, "kindOf", "(I)I"⟩
abbrev cX2_paceOf : ByteArray := prog_4_method_10_code
def yX2_paceOf : MethodName := ⟨RX2, "paceOf", "(I)I"⟩
def RX3 : String := "PassedCarry$Row"
def TX3 : u_T := fun k => match k with
  | 0 => ("PassedCarry$Row", "places", "[I", true)
  | _ => ("PassedCarry$Row", "size", "I", false)
def tyX3 : Nat → FieldType := fun k => match k with
  | 0 => .array .int
  | _ => .int
abbrev wsX30 : List Cond := u_ws RX3 TX3 2
theorem nmX3 : ∀ a, a < 2 → ∀ b, b < 2 → a ≠ b → (TX3 a).2.1 ≠ (TX3 b).2.1 := by decide +kernel
theorem tyX3_ok : ∀ k, k < 2 → parseFieldDescriptor (TX3 k).2.2.1 = some (tyX3 k) := by decide +kernel
abbrev cX3_init : ByteArray := prog_5_method_1_code
def yX3_init : MethodName := ⟨RX3, "<init>", "(I)V"⟩
abbrev cX3_isMissing : ByteArray := prog_5_method_2_code
def yX3_isMissing : MethodName := ⟨RX3, "isMissing", "()Z"⟩
abbrev cX3_has : ByteArray := prog_5_method_3_code
def yX3_has : MethodName := ⟨RX3, "has", "(I)Z"⟩
abbrev cX3_hasFrom : ByteArray := prog_5_method_4_code
def yX3_hasFrom : MethodName := ⟨RX3, "hasFrom", "(II)Z"⟩
abbrev cX3_renew : ByteArray := prog_5_method_5_code
def yX3_renew : MethodName := ⟨RX3, "renew", "(II)V"⟩
abbrev cX3_remove : ByteArray := prog_5_method_6_code
def yX3_remove : MethodName := ⟨RX3, "remove", "()V"⟩
abbrev cX3_add : ByteArray := prog_5_method_7_code
def yX3_add : MethodName := ⟨RX3, "add", "(I)V"⟩
abbrev cX3_fillFrom : ByteArray := prog_5_method_8_code
def yX3_fillFrom : MethodName := ⟨RX3, "fillFrom", "([II)V"⟩
abbrev cX3_sum : ByteArray := prog_5_method_9_code
def yX3_sum : MethodName := ⟨RX3, "sum", "()J"⟩
abbrev cX3_placeOf : ByteArray := prog_5_method_10_code
def yX3_placeOf : MethodName := ⟨RX3, "placeOf", "(I)I"⟩
abbrev cX3_runnersIn : ByteArray := prog_5_method_11_code
def yX3_runnersIn : MethodName := ⟨RX3, "runnersIn", "(I)I"⟩
abbrev cX3_digestInto : ByteArray := prog_5_method_12_code
def yX3_digestInto : MethodName := ⟨RX3, "digestInto", "(J)J"⟩
def RX4 : String := "PassedCarry"
def TX4 : u_T := fun k => match k with
  | 0 => ("PassedCarry", "rows", "[LPassedCarry$Row;", true)
  | 1 => ("PassedCarry", "texts", "[LPassedCarry$Row;", true)
  | 2 => ("PassedCarry", "course", "LPassedCarry$Hill;", false)
  | 3 => ("PassedCarry", "draft", "LPassedCarry$Hill;", false)
  | 4 => ("PassedCarry", "race", "LPassedCarry$Race;", true)
  | 5 => ("PassedCarry", "trial", "LPassedCarry$Race;", true)
  | 6 => ("PassedCarry", "keptRaces", "[LPassedCarry$Race;", true)
  | 7 => ("PassedCarry", "lawNow", "I", false)
  | 8 => ("PassedCarry", "askedLast", "I", false)
  | 9 => ("PassedCarry", "upperLast", "J", false)
  | 10 => ("PassedCarry", "lowerLast", "J", false)
  | 11 => ("PassedCarry", "findingLast", "I", false)
  | 12 => ("PassedCarry", "findingCounts", "[I", true)
  | 13 => ("PassedCarry", "chosen", "[I", true)
  | 14 => ("PassedCarry", "triedHeads", "[I", true)
  | 15 => ("PassedCarry", "triedBreaths", "[I", true)
  | 16 => ("PassedCarry", "suppers", "[I", true)
  | _ => ("PassedCarry", "worths", "[I", true)
def tyX4 : Nat → FieldType := fun k => match k with
  | 0 => .array (.object "PassedCarry$Row")
  | 1 => .array (.object "PassedCarry$Row")
  | 2 => .object "PassedCarry$Hill"
  | 3 => .object "PassedCarry$Hill"
  | 4 => .object "PassedCarry$Race"
  | 5 => .object "PassedCarry$Race"
  | 6 => .array (.object "PassedCarry$Race")
  | 7 => .int
  | 8 => .int
  | 9 => .long
  | 10 => .long
  | 11 => .int
  | 12 => .array .int
  | 13 => .array .int
  | 14 => .array .int
  | 15 => .array .int
  | 16 => .array .int
  | _ => .array .int
abbrev wsX40 : List Cond := u_ws RX4 TX4 18
theorem nmX4 : ∀ a, a < 18 → ∀ b, b < 18 → a ≠ b → (TX4 a).2.1 ≠ (TX4 b).2.1 := by decide +kernel
theorem tyX4_ok : ∀ k, k < 18 → parseFieldDescriptor (TX4 k).2.2.1 = some (tyX4 k) := by decide +kernel
abbrev cX4_init : ByteArray := prog_1_method_1_code
def yX4_init : MethodName := ⟨RX4, "<init>", "()V"⟩
abbrev cX4_row : ByteArray := prog_1_method_2_code
def yX4_row : MethodName := ⟨RX4, "row", "(II)I"⟩
abbrev cX4_lay : ByteArray := prog_1_method_3_code
def yX4_lay : MethodName := ⟨RX4, "lay", "(III)I"⟩
abbrev cX4_at : ByteArray := prog_1_method_4_code
def yX4_at : MethodName := ⟨RX4, "at", "(II)I"⟩
abbrev cX4_tear : ByteArray := prog_1_method_5_code
def yX4_tear : MethodName := ⟨RX4, "tear", "(I)I"⟩
abbrev cX4_copy : ByteArray := prog_1_method_6_code
def yX4_copy : MethodName := ⟨RX4, "copy", "(IIIII)I"⟩
abbrev cX4_mean : ByteArray := prog_1_method_7_code
def yX4_mean : MethodName := ⟨RX4, "mean", "(I)I"⟩
abbrev cX4_text : ByteArray := prog_1_method_8_code
def yX4_text : MethodName := ⟨RX4, "text", "(II)I"⟩
abbrev cX4_put : ByteArray := prog_1_method_9_code
def yX4_put : MethodName := ⟨RX4, "put", "(III)I"⟩
abbrev cX4_fault : ByteArray := prog_1_method_10_code
def yX4_fault : MethodName := ⟨RX4, "fault", "(I)I"⟩
abbrev cX4_hill : ByteArray := prog_1_method_11_code
def yX4_hill : MethodName := ⟨RX4, "hill", "(I)I"⟩
abbrev cX4_road : ByteArray := prog_1_method_12_code
def yX4_road : MethodName := ⟨RX4, "road", "(I)I"⟩
abbrev cX4_about : ByteArray := prog_1_method_13_code
def yX4_about : MethodName := ⟨RX4, "about", "(II)I"⟩
abbrev cX4_pace : ByteArray := prog_1_method_14_code
def yX4_pace : MethodName := ⟨RX4, "pace", "(II)I"⟩
abbrev cX4_mark : ByteArray := prog_1_method_15_code
def yX4_mark : MethodName := ⟨RX4, "mark", "(II)I"⟩
abbrev cX4_head : ByteArray := prog_1_method_16_code
def yX4_head : MethodName := ⟨RX4, "head", "(II)I"⟩
abbrev cX4_law : ByteArray := prog_1_method_17_code
def yX4_law : MethodName := ⟨RX4, "law", "(I)I"⟩
abbrev cX4_begin : ByteArray := prog_1_method_18_code
def yX4_begin : MethodName := ⟨RX4, "begin", "()I"⟩
abbrev cX4_go : ByteArray := prog_1_method_19_code
def yX4_go : MethodName := ⟨RX4, "go", "(I)I"⟩
abbrev cX4_told : ByteArray := prog_1_method_20_code
def yX4_told : MethodName := ⟨RX4, "told", "(II)I"⟩
abbrev cX4_sack : ByteArray := prog_1_method_21_code
def yX4_sack : MethodName := ⟨RX4, "sack", "()I"⟩
abbrev cX4_passed : ByteArray := prog_1_method_22_code
def yX4_passed : MethodName := ⟨RX4, "passed", "(I)I"⟩
abbrev cX4_keep : ByteArray := prog_1_method_23_code
def yX4_keep : MethodName := ⟨RX4, "keep", "(I)I"⟩
abbrev cX4_on : ByteArray := prog_1_method_24_code
def yX4_on : MethodName := ⟨RX4, "on", "(I)I"⟩
abbrev cX4_pays : ByteArray := prog_1_method_25_code
def yX4_pays : MethodName := ⟨RX4, "pays", "()I"⟩
abbrev cX4_ranks : ByteArray := prog_1_method_26_code
def yX4_ranks : MethodName := ⟨RX4, "ranks", "(I)I"⟩
abbrev cX4_laws : ByteArray := prog_1_method_27_code
def yX4_laws : MethodName := ⟨RX4, "laws", "(I)I"⟩
abbrev cX4_best : ByteArray := prog_1_method_28_code
def yX4_best : MethodName := ⟨RX4, "best", "(II)I"⟩
abbrev cX4_free : ByteArray := prog_1_method_29_code
def yX4_free : MethodName := ⟨RX4, "free", "(II)I"⟩
abbrev cX4_duel : ByteArray := prog_1_method_30_code
def yX4_duel : MethodName := ⟨RX4, "duel", "(III)I"⟩
abbrev cX4_pact : ByteArray := prog_1_method_31_code
def yX4_pact : MethodName := ⟨RX4, "pact", "(IIII)I"⟩
abbrev cX4_worth : ByteArray := prog_1_method_32_code
def yX4_worth : MethodName := ⟨RX4, "worth", "(III)I"⟩
abbrev cX4_start : ByteArray := prog_1_method_33_code
def yX4_start : MethodName := ⟨RX4, "start", "(I)I"⟩
abbrev cX4_fair : ByteArray := prog_1_method_34_code
def yX4_fair : MethodName := ⟨RX4, "fair", "(I)I"⟩
abbrev cX4_post : ByteArray := prog_1_method_35_code
def yX4_post : MethodName := ⟨RX4, "post", "(II)I"⟩
abbrev cX4_could : ByteArray := prog_1_method_36_code
def yX4_could : MethodName := ⟨RX4, "could", "(III)I"⟩
abbrev cX4_odds : ByteArray := prog_1_method_37_code
def yX4_odds : MethodName := ⟨RX4, "odds", "(I)I"⟩
abbrev cX4_season : ByteArray := prog_1_method_38_code
def yX4_season : MethodName := ⟨RX4, "season", "(III)I"⟩
abbrev cX4_asked : ByteArray := prog_1_method_39_code
def yX4_asked : MethodName := ⟨RX4, "asked", "()I"⟩
abbrev cX4_upper : ByteArray := prog_1_method_40_code
def yX4_upper : MethodName := ⟨RX4, "upper", "()J"⟩
abbrev cX4_lower : ByteArray := prog_1_method_41_code
def yX4_lower : MethodName := ⟨RX4, "lower", "()J"⟩
abbrev cX4_count : ByteArray := prog_1_method_42_code
def yX4_count : MethodName := ⟨RX4, "count", "(I)I"⟩
abbrev cX4_finding : ByteArray := prog_1_method_43_code
def yX4_finding : MethodName := ⟨RX4, "finding", "()I"⟩
abbrev cX4_findings : ByteArray := prog_1_method_44_code
def yX4_findings : MethodName := ⟨RX4, "findings", "(I)I"⟩
abbrev cX4_digest : ByteArray := prog_1_method_45_code
def yX4_digest : MethodName := ⟨RX4, "digest", "()J"⟩
abbrev cX4_isRow : ByteArray := prog_1_method_46_code
def yX4_isRow : MethodName := ⟨RX4, "isRow", "(I)Z"⟩
abbrev cX4_isKeptPlace : ByteArray := prog_1_method_47_code
def yX4_isKeptPlace : MethodName := ⟨RX4, "isKeptPlace", "(I)Z"⟩
abbrev cX4_isRunner : ByteArray := prog_1_method_48_code
def yX4_isRunner : MethodName := ⟨RX4, "isRunner", "(I)Z"⟩
abbrev cX4_arePactOf : ByteArray := prog_1_method_49_code
def yX4_arePactOf : MethodName := ⟨RX4, "arePactOf", "(III)Z"⟩
abbrev cX4_refusalOf : ByteArray := prog_1_method_50_code
def yX4_refusalOf : MethodName := ⟨RX4, "refusalOf", "([LPassedCarry$Row;I)I"⟩
abbrev cX4_refusalAt : ByteArray := prog_1_method_51_code
def yX4_refusalAt : MethodName := ⟨RX4, "refusalAt", "([LPassedCarry$Row;II)I"⟩
abbrev cX4_layOut : ByteArray := prog_1_method_52_code
def yX4_layOut : MethodName := ⟨RX4, "layOut", "([LPassedCarry$Row;III)I"⟩
abbrev cX4_found : ByteArray := prog_1_method_53_code
def yX4_found : MethodName := ⟨RX4, "found", "(I)I"⟩
abbrev cX4_tellFraction : ByteArray := prog_1_method_54_code
def yX4_tellFraction : MethodName := ⟨RX4, "tellFraction", "(JJ)V"⟩
abbrev cX4_powerOfFour : ByteArray := prog_1_method_55_code
def yX4_powerOfFour : MethodName := ⟨RX4, "powerOfFour", "(I)I"⟩
abbrev cX4_figureOf : ByteArray := prog_1_method_56_code
def yX4_figureOf : MethodName := ⟨RX4, "figureOf", "(II)I"⟩
abbrev cX4_finishTrial : ByteArray := prog_1_method_57_code
def yX4_finishTrial : MethodName := ⟨RX4, "finishTrial", "(I)V"⟩
abbrev cX4_runTrial : ByteArray := prog_1_method_58_code
def yX4_runTrial : MethodName := ⟨RX4, "runTrial", "([I[I)V"⟩
abbrev cX4_tryChoices : ByteArray := prog_1_method_59_code
def yX4_tryChoices : MethodName := ⟨RX4, "tryChoices", "(IIII)V"⟩
abbrev cX4_settleDuel : ByteArray := prog_1_method_60_code
def yX4_settleDuel : MethodName := ⟨RX4, "settleDuel", "(I)I"⟩
abbrev cX4_placeOfLeast : ByteArray := prog_1_method_61_code
def yX4_placeOfLeast : MethodName := ⟨RX4, "placeOfLeast", "(I)I"⟩
abbrev cX4_placeOfMost : ByteArray := prog_1_method_62_code
def yX4_placeOfMost : MethodName := ⟨RX4, "placeOfMost", "(I)I"⟩
abbrev cX4_notePassers : ByteArray := prog_1_method_63_code
def yX4_notePassers : MethodName := ⟨RX4, "notePassers", "(IILPassedCarry$Row;)I"⟩
abbrev cX4_overtakenBetween : ByteArray := prog_1_method_64_code
def yX4_overtakenBetween : MethodName := ⟨RX4, "overtakenBetween", "(LPassedCarry$Row;LPassedCarry$Row;)I"⟩
abbrev cX4_breathByLot : ByteArray := prog_1_method_65_code
def yX4_breathByLot : MethodName := ⟨RX4, "breathByLot", "(II)I"⟩
abbrev cX4_keptCount : ByteArray := prog_1_method_66_code
def yX4_keptCount : MethodName := ⟨RX4, "keptCount", "()I"⟩
abbrev cX4_thereAmong : ByteArray := prog_1_method_67_code
def yX4_thereAmong : MethodName := ⟨RX4, "thereAmong", "([LPassedCarry$Row;)I"⟩
abbrev cX4_digestRunner : ByteArray := prog_1_method_68_code
def yX4_digestRunner : MethodName := ⟨RX4, "digestRunner", "(JI)J"⟩
def RX5 : String := "PassedCarryModel"
def TX5 : u_T := fun k => match k with
  | 0 => ("PassedCarryModel", "latest", "I", false)
  | 1 => ("PassedCarryModel", "came", "[I", true)
  | 2 => ("PassedCarryModel", "asked", "I", false)
  | 3 => ("PassedCarryModel", "upper", "J", false)
  | 4 => ("PassedCarryModel", "lower", "J", false)
  | 5 => ("PassedCarryModel", "sizes", "[I", true)
  | 6 => ("PassedCarryModel", "rows", "[I", true)
  | 7 => ("PassedCarryModel", "copied", "[I", true)
  | 8 => ("PassedCarryModel", "textSizes", "[I", true)
  | 9 => ("PassedCarryModel", "bytes", "[B", true)
  | 10 => ("PassedCarryModel", "yards", "I", false)
  | 11 => ("PassedCarryModel", "slopes", "[I", true)
  | 12 => ("PassedCarryModel", "n", "I", false)
  | 13 => ("PassedCarryModel", "kinds", "[I", true)
  | 14 => ("PassedCarryModel", "breaths", "[I", true)
  | 15 => ("PassedCarryModel", "heads", "[I", true)
  | 16 => ("PassedCarryModel", "planMany", "[I", true)
  | 17 => ("PassedCarryModel", "plans", "[I", true)
  | 18 => ("PassedCarryModel", "lawNow", "I", false)
  | 19 => ("PassedCarryModel", "readAt", "I", false)
  | 20 => ("PassedCarryModel", "readYards", "I", false)
  | 21 => ("PassedCarryModel", "readMany", "I", false)
  | 22 => ("PassedCarryModel", "readSlopes", "[I", true)
  | 23 => ("PassedCarryModel", "readKinds", "[I", true)
  | 24 => ("PassedCarryModel", "readBreaths", "[I", true)
  | 25 => ("PassedCarryModel", "readPlanMany", "[I", true)
  | 26 => ("PassedCarryModel", "readPlans", "[I", true)
  | 27 => ("PassedCarryModel", "isKept", "[Z", true)
  | 28 => ("PassedCarryModel", "races", "[I", true)
  | 29 => ("PassedCarryModel", "b", "I", false)
  | 30 => ("PassedCarryModel", "choiceFrom", "I", false)
  | 31 => ("PassedCarryModel", "choiceMany", "[I", true)
  | 32 => ("PassedCarryModel", "choices", "[I", true)
  | 33 => ("PassedCarryModel", "worths", "[I", true)
  | 34 => ("PassedCarryModel", "pactFirst", "I", false)
  | 35 => ("PassedCarryModel", "pactMany", "I", false)
  | _ => ("PassedCarryModel", "hash", "J", false)
def tyX5 : Nat → FieldType := fun k => match k with
  | 0 => .int
  | 1 => .array .int
  | 2 => .int
  | 3 => .long
  | 4 => .long
  | 5 => .array .int
  | 6 => .array .int
  | 7 => .array .int
  | 8 => .array .int
  | 9 => .array .byte
  | 10 => .int
  | 11 => .array .int
  | 12 => .int
  | 13 => .array .int
  | 14 => .array .int
  | 15 => .array .int
  | 16 => .array .int
  | 17 => .array .int
  | 18 => .int
  | 19 => .int
  | 20 => .int
  | 21 => .int
  | 22 => .array .int
  | 23 => .array .int
  | 24 => .array .int
  | 25 => .array .int
  | 26 => .array .int
  | 27 => .array .boolean
  | 28 => .array .int
  | 29 => .int
  | 30 => .int
  | 31 => .array .int
  | 32 => .array .int
  | 33 => .array .int
  | 34 => .int
  | 35 => .int
  | _ => .long
abbrev wsX50 : List Cond := u_ws RX5 TX5 37
theorem nmX5 : ∀ a, a < 37 → ∀ b, b < 37 → a ≠ b → (TX5 a).2.1 ≠ (TX5 b).2.1 := by decide +kernel
theorem tyX5_ok : ∀ k, k < 37 → parseFieldDescriptor (TX5 k).2.2.1 = some (tyX5 k) := by decide +kernel
abbrev cX5_init : ByteArray := prog_7_method_1_code
def yX5_init : MethodName := ⟨RX5, "<init>", "()V"⟩
abbrev cX5_in : ByteArray := prog_7_method_2_code
def yX5_in : MethodName := ⟨RX5, "in", "(III)Z"⟩
abbrev cX5_has : ByteArray := prog_7_method_3_code
def yX5_has : MethodName := ⟨RX5, "has", "(II)Z"⟩
abbrev cX5_bits : ByteArray := prog_7_method_4_code
def yX5_bits : MethodName := ⟨RX5, "bits", "(I)I"⟩
abbrev cX5_lesser : ByteArray := prog_7_method_5_code
def yX5_lesser : MethodName := ⟨RX5, "lesser", "(II)I"⟩
abbrev cX5_greater : ByteArray := prog_7_method_6_code
def yX5_greater : MethodName := ⟨RX5, "greater", "(II)I"⟩
abbrev cX5_meets : ByteArray := prog_7_method_7_code
def yX5_meets : MethodName := ⟨RX5, "meets", "(I)I"⟩
abbrev cX5_finding : ByteArray := prog_7_method_8_code
def yX5_finding : MethodName := ⟨RX5, "finding", "()I"⟩
abbrev cX5_findings : ByteArray := prog_7_method_9_code
def yX5_findings : MethodName := ⟨RX5, "findings", "(I)I"⟩
abbrev cX5_tells : ByteArray := prog_7_method_10_code
def yX5_tells : MethodName := ⟨RX5, "tells", "(II)I"⟩
abbrev cX5_asked : ByteArray := prog_7_method_11_code
def yX5_asked : MethodName := ⟨RX5, "asked", "()I"⟩
abbrev cX5_fraction : ByteArray := prog_7_method_12_code
def yX5_fraction : MethodName := ⟨RX5, "fraction", "(JJI)I"⟩
abbrev cX5_upper : ByteArray := prog_7_method_13_code
def yX5_upper : MethodName := ⟨RX5, "upper", "()J"⟩
abbrev cX5_lower : ByteArray := prog_7_method_14_code
def yX5_lower : MethodName := ⟨RX5, "lower", "()J"⟩
abbrev cX5_isRow : ByteArray := prog_7_method_15_code
def yX5_isRow : MethodName := ⟨RX5, "isRow", "(I)Z"⟩
abbrev cX5_rowAt : ByteArray := prog_7_method_16_code
def yX5_rowAt : MethodName := ⟨RX5, "rowAt", "(II)I"⟩
abbrev cX5_row : ByteArray := prog_7_method_17_code
def yX5_row : MethodName := ⟨RX5, "row", "(II)I"⟩
abbrev cX5_lay : ByteArray := prog_7_method_18_code
def yX5_lay : MethodName := ⟨RX5, "lay", "(III)I"⟩
abbrev cX5_at : ByteArray := prog_7_method_19_code
def yX5_at : MethodName := ⟨RX5, "at", "(II)I"⟩
abbrev cX5_tear : ByteArray := prog_7_method_20_code
def yX5_tear : MethodName := ⟨RX5, "tear", "(I)I"⟩
abbrev cX5_copy : ByteArray := prog_7_method_21_code
def yX5_copy : MethodName := ⟨RX5, "copy", "(IIIII)I"⟩
abbrev cX5_mean : ByteArray := prog_7_method_22_code
def yX5_mean : MethodName := ⟨RX5, "mean", "(I)I"⟩
abbrev cX5_isText : ByteArray := prog_7_method_23_code
def yX5_isText : MethodName := ⟨RX5, "isText", "(I)Z"⟩
abbrev cX5_text : ByteArray := prog_7_method_24_code
def yX5_text : MethodName := ⟨RX5, "text", "(II)I"⟩
abbrev cX5_put : ByteArray := prog_7_method_25_code
def yX5_put : MethodName := ⟨RX5, "put", "(III)I"⟩
abbrev cX5_byteAt : ByteArray := prog_7_method_26_code
def yX5_byteAt : MethodName := ⟨RX5, "byteAt", "(II)I"⟩
abbrev cX5_slopeOf : ByteArray := prog_7_method_27_code
def yX5_slopeOf : MethodName := ⟨RX5, "slopeOf", "(I)I"⟩
abbrev cX5_paceOf : ByteArray := prog_7_method_28_code
def yX5_paceOf : MethodName := ⟨RX5, "paceOf", "(I)I"⟩
abbrev cX5_kindOf : ByteArray := prog_7_method_29_code
def yX5_kindOf : MethodName := ⟨RX5, "kindOf", "(I)I"⟩
abbrev cX5_readsRoad : ByteArray := prog_7_method_30_code
def yX5_readsRoad : MethodName := ⟨RX5, "readsRoad", "(I)Z"⟩
abbrev cX5_readsRunner : ByteArray := prog_7_method_31_code
def yX5_readsRunner : MethodName := ⟨RX5, "readsRunner", "(I)Z"⟩
abbrev cX5_faultOf : ByteArray := prog_7_method_32_code
def yX5_faultOf : MethodName := ⟨RX5, "faultOf", "(I)I"⟩
abbrev cX5_fault : ByteArray := prog_7_method_33_code
def yX5_fault : MethodName := ⟨RX5, "fault", "(I)I"⟩
abbrev cX5_hill : ByteArray := prog_7_method_34_code
def yX5_hill : MethodName := ⟨RX5, "hill", "(I)I"⟩
abbrev cX5_isRunner : ByteArray := prog_7_method_35_code
def yX5_isRunner : MethodName := ⟨RX5, "isRunner", "(I)Z"⟩
abbrev cX5_road : ByteArray := prog_7_method_36_code
def yX5_road : MethodName := ⟨RX5, "road", "(I)I"⟩
abbrev cX5_aboutTells : ByteArray := prog_7_method_37_code
def yX5_aboutTells : MethodName := ⟨RX5, "aboutTells", "(II)I"⟩
abbrev cX5_about : ByteArray := prog_7_method_38_code
def yX5_about : MethodName := ⟨RX5, "about", "(II)I"⟩
abbrev cX5_pace : ByteArray := prog_7_method_39_code
def yX5_pace : MethodName := ⟨RX5, "pace", "(II)I"⟩
abbrev cX5_isGoat : ByteArray := prog_7_method_40_code
def yX5_isGoat : MethodName := ⟨RX5, "isGoat", "(I)Z"⟩
abbrev cX5_isOx : ByteArray := prog_7_method_41_code
def yX5_isOx : MethodName := ⟨RX5, "isOx", "(I)Z"⟩
abbrev cX5_pacesOf : ByteArray := prog_7_method_42_code
def yX5_pacesOf : MethodName := ⟨RX5, "pacesOf", "(II)I"⟩
abbrev cX5_steepYards : ByteArray := prog_7_method_43_code
def yX5_steepYards : MethodName := ⟨RX5, "steepYards", "()I"⟩
abbrev cX5_mark : ByteArray := prog_7_method_44_code
def yX5_mark : MethodName := ⟨RX5, "mark", "(II)I"⟩
abbrev cX5_head : ByteArray := prog_7_method_45_code
def yX5_head : MethodName := ⟨RX5, "head", "(II)I"⟩
abbrev cX5_law : ByteArray := prog_7_method_46_code
def yX5_law : MethodName := ⟨RX5, "law", "(I)I"⟩
abbrev cX5_v : ByteArray := prog_7_method_47_code
def yX5_v : MethodName := ⟨RX5, "v", "(I)I"⟩
abbrev cX5_put_ : ByteArray := prog_7_method_48_code
def yX5_put_ : MethodName := ⟨RX5, "put", "(II)V"⟩
abbrev cX5_look : ByteArray := prog_7_method_49_code
def yX5_look : MethodName := ⟨RX5, "look", "(I)V"⟩
abbrev cX5_copyRace : ByteArray := prog_7_method_50_code
def yX5_copyRace : MethodName := ⟨RX5, "copyRace", "(II)V"⟩
abbrev cX5_begins : ByteArray := prog_7_method_51_code
def yX5_begins : MethodName := ⟨RX5, "begins", "()V"⟩
abbrev cX5_starts : ByteArray := prog_7_method_52_code
def yX5_starts : MethodName := ⟨RX5, "starts", "(III)V"⟩
abbrev cX5_isDone : ByteArray := prog_7_method_53_code
def yX5_isDone : MethodName := ⟨RX5, "isDone", "(I)Z"⟩
abbrev cX5_doneMany : ByteArray := prog_7_method_54_code
def yX5_doneMany : MethodName := ⟨RX5, "doneMany", "()I"⟩
abbrev cX5_isEnd : ByteArray := prog_7_method_55_code
def yX5_isEnd : MethodName := ⟨RX5, "isEnd", "()Z"⟩
abbrev cX5_noChoices : ByteArray := prog_7_method_56_code
def yX5_noChoices : MethodName := ⟨RX5, "noChoices", "()V"⟩
abbrev cX5_wanted : ByteArray := prog_7_method_57_code
def yX5_wanted : MethodName := ⟨RX5, "wanted", "(I)I"⟩
abbrev cX5_breathBy : ByteArray := prog_7_method_58_code
def yX5_breathBy : MethodName := ⟨RX5, "breathBy", "(II)I"⟩
abbrev cX5_passes : ByteArray := prog_7_method_59_code
def yX5_passes : MethodName := ⟨RX5, "passes", "(III)V"⟩
abbrev cX5_goesOn : ByteArray := prog_7_method_60_code
def yX5_goesOn : MethodName := ⟨RX5, "goesOn", "(I)V"⟩
abbrev cX5_step : ByteArray := prog_7_method_61_code
def yX5_step : MethodName := ⟨RX5, "step", "()V"⟩
abbrev cX5_toEnd : ByteArray := prog_7_method_62_code
def yX5_toEnd : MethodName := ⟨RX5, "toEnd", "()V"⟩
abbrev cX5_begin : ByteArray := prog_7_method_63_code
def yX5_begin : MethodName := ⟨RX5, "begin", "()I"⟩
abbrev cX5_go : ByteArray := prog_7_method_64_code
def yX5_go : MethodName := ⟨RX5, "go", "(I)I"⟩
abbrev cX5_isAhead : ByteArray := prog_7_method_65_code
def yX5_isAhead : MethodName := ⟨RX5, "isAhead", "(II)Z"⟩
abbrev cX5_rankOf : ByteArray := prog_7_method_66_code
def yX5_rankOf : MethodName := ⟨RX5, "rankOf", "(I)I"⟩
abbrev cX5_raceTells : ByteArray := prog_7_method_67_code
def yX5_raceTells : MethodName := ⟨RX5, "raceTells", "(II)I"⟩
abbrev cX5_told : ByteArray := prog_7_method_68_code
def yX5_told : MethodName := ⟨RX5, "told", "(II)I"⟩
abbrev cX5_sack : ByteArray := prog_7_method_69_code
def yX5_sack : MethodName := ⟨RX5, "sack", "()I"⟩
abbrev cX5_passed : ByteArray := prog_7_method_70_code
def yX5_passed : MethodName := ⟨RX5, "passed", "(I)I"⟩
abbrev cX5_keep : ByteArray := prog_7_method_71_code
def yX5_keep : MethodName := ⟨RX5, "keep", "(I)I"⟩
abbrev cX5_on : ByteArray := prog_7_method_72_code
def yX5_on : MethodName := ⟨RX5, "on", "(I)I"⟩
abbrev cX5_layEnd : ByteArray := prog_7_method_73_code
def yX5_layEnd : MethodName := ⟨RX5, "layEnd", "()V"⟩
abbrev cX5_pays : ByteArray := prog_7_method_74_code
def yX5_pays : MethodName := ⟨RX5, "pays", "()I"⟩
abbrev cX5_ranks : ByteArray := prog_7_method_75_code
def yX5_ranks : MethodName := ⟨RX5, "ranks", "(I)I"⟩
abbrev cX5_laws : ByteArray := prog_7_method_76_code
def yX5_laws : MethodName := ⟨RX5, "laws", "(I)I"⟩
abbrev cX5_powerOf : ByteArray := prog_7_method_77_code
def yX5_powerOf : MethodName := ⟨RX5, "powerOf", "(II)I"⟩
abbrev cX5_choicesBegin : ByteArray := prog_7_method_78_code
def yX5_choicesBegin : MethodName := ⟨RX5, "choicesBegin", "()V"⟩
abbrev cX5_layChoices : ByteArray := prog_7_method_79_code
def yX5_layChoices : MethodName := ⟨RX5, "layChoices", "(III)V"⟩
abbrev cX5_isMany : ByteArray := prog_7_method_80_code
def yX5_isMany : MethodName := ⟨RX5, "isMany", "(I)Z"⟩
abbrev cX5_best : ByteArray := prog_7_method_81_code
def yX5_best : MethodName := ⟨RX5, "best", "(II)I"⟩
abbrev cX5_free : ByteArray := prog_7_method_82_code
def yX5_free : MethodName := ⟨RX5, "free", "(II)I"⟩
abbrev cX5_layBoth : ByteArray := prog_7_method_83_code
def yX5_layBoth : MethodName := ⟨RX5, "layBoth", "(IIII)V"⟩
abbrev cX5_duel : ByteArray := prog_7_method_84_code
def yX5_duel : MethodName := ⟨RX5, "duel", "(III)I"⟩
abbrev cX5_layPact : ByteArray := prog_7_method_85_code
def yX5_layPact : MethodName := ⟨RX5, "layPact", "(IIII)V"⟩
abbrev cX5_pact : ByteArray := prog_7_method_86_code
def yX5_pact : MethodName := ⟨RX5, "pact", "(IIII)I"⟩
abbrev cX5_worth : ByteArray := prog_7_method_87_code
def yX5_worth : MethodName := ⟨RX5, "worth", "(III)I"⟩
abbrev cX5_layWhole : ByteArray := prog_7_method_88_code
def yX5_layWhole : MethodName := ⟨RX5, "layWhole", "()V"⟩
abbrev cX5_start : ByteArray := prog_7_method_89_code
def yX5_start : MethodName := ⟨RX5, "start", "(I)I"⟩
abbrev cX5_fair : ByteArray := prog_7_method_90_code
def yX5_fair : MethodName := ⟨RX5, "fair", "(I)I"⟩
abbrev cX5_post : ByteArray := prog_7_method_91_code
def yX5_post : MethodName := ⟨RX5, "post", "(II)I"⟩
abbrev cX5_placeIn : ByteArray := prog_7_method_92_code
def yX5_placeIn : MethodName := ⟨RX5, "placeIn", "(II)I"⟩
abbrev cX5_runnersIn : ByteArray := prog_7_method_93_code
def yX5_runnersIn : MethodName := ⟨RX5, "runnersIn", "(I)I"⟩
abbrev cX5_could : ByteArray := prog_7_method_94_code
def yX5_could : MethodName := ⟨RX5, "could", "(III)I"⟩
abbrev cX5_odds : ByteArray := prog_7_method_95_code
def yX5_odds : MethodName := ⟨RX5, "odds", "(I)I"⟩
abbrev cX5_season : ByteArray := prog_7_method_96_code
def yX5_season : MethodName := ⟨RX5, "season", "(III)I"⟩
abbrev cX5_counted : ByteArray := prog_7_method_97_code
def yX5_counted : MethodName := ⟨RX5, "counted", "(I)I"⟩
abbrev cX5_count : ByteArray := prog_7_method_98_code
def yX5_count : MethodName := ⟨RX5, "count", "(I)I"⟩
abbrev cX5_mix : ByteArray := prog_7_method_99_code
def yX5_mix : MethodName := ⟨RX5, "mix", "(J)V"⟩
abbrev cX5_mixRace : ByteArray := prog_7_method_100_code
def yX5_mixRace : MethodName := ⟨RX5, "mixRace", "()V"⟩
abbrev cX5_digest : ByteArray := prog_7_method_101_code
def yX5_digest : MethodName := ⟨RX5, "digest", "()J"⟩
def RJ6 : String := "java/lang/Integer"
def TJ6 : u_T := fun k => match k with
  | _ => ("", "", "", false)
def tyJ6 : Nat → FieldType := fun k => match k with
  | _ => .int
abbrev wsJ60 : List Cond := u_ws RJ6 TJ6 0
theorem nmJ6 : ∀ a, a < 0 → ∀ b, b < 0 → a ≠ b → (TJ6 a).2.1 ≠ (TJ6 b).2.1 := by decide +kernel
theorem tyJ6_ok : ∀ k, k < 0 → parseFieldDescriptor (TJ6 k).2.2.1 = some (tyJ6 k) := by decide +kernel
abbrev cJ6_bitCount_0f7a4 : ByteArray := prog_8_method_49_code
def yJ6_bitCount_0f7a4 : MethodName := ⟨RJ6, "bitCount", "(I)I"⟩
def RJ9 : String := "java/lang/Math"
def TJ9 : u_T := fun k => match k with
  | _ => ("", "", "", false)
def tyJ9 : Nat → FieldType := fun k => match k with
  | _ => .int
abbrev wsJ90 : List Cond := u_ws RJ9 TJ9 0
theorem nmJ9 : ∀ a, a < 0 → ∀ b, b < 0 → a ≠ b → (TJ9 a).2.1 ≠ (TJ9 b).2.1 := by decide +kernel
theorem tyJ9_ok : ∀ k, k < 0 → parseFieldDescriptor (TJ9 k).2.2.1 = some (tyJ9 k) := by decide +kernel
abbrev cJ9_max_7cf53 : ByteArray := prog_9_method_65_code
def yJ9_max_7cf53 : MethodName := ⟨RJ9, "max", "(II)I"⟩
abbrev cJ9_min_7cf53 : ByteArray := prog_9_method_69_code
def yJ9_min_7cf53 : MethodName := ⟨RJ9, "min", "(II)I"⟩
def RJ10 : String := "java/lang/System"
def TJ10 : u_T := fun k => match k with
  | _ => ("", "", "", false)
def tyJ10 : Nat → FieldType := fun k => match k with
  | _ => .int
abbrev wsJ100 : List Cond := u_ws RJ10 TJ10 0
theorem nmJ10 : ∀ a, a < 0 → ∀ b, b < 0 → a ≠ b → (TJ10 a).2.1 ≠ (TJ10 b).2.1 := by decide +kernel
theorem tyJ10_ok : ∀ k, k < 0 → parseFieldDescriptor (TJ10 k).2.2.1 = some (tyJ10 k) := by decide +kernel
def RJ7 : String := "java/util/Arrays"
def TJ7 : u_T := fun k => match k with
  | _ => ("", "", "", false)
def tyJ7 : Nat → FieldType := fun k => match k with
  | _ => .int
abbrev wsJ70 : List Cond := u_ws RJ7 TJ7 0
theorem nmJ7 : ∀ a, a < 0 → ∀ b, b < 0 → a ≠ b → (TJ7 a).2.1 ≠ (TJ7 b).2.1 := by decide +kernel
theorem tyJ7_ok : ∀ k, k < 0 → parseFieldDescriptor (TJ7 k).2.2.1 = some (tyJ7 k) := by decide +kernel
abbrev cJ7_fill_53178 : ByteArray := prog_11_method_103_code
def yJ7_fill_53178 : MethodName := ⟨RJ7, "fill", "([II)V"⟩
def RL : String := "PassedCarryLaw"
abbrev cL_law : ByteArray := code
def yL_law : MethodName := ⟨RL, "law", "([I)Z"⟩
end
section
/-! the abstract heap: cells by abstract references; 0 is the static table, 1 the script, 2 and on what the law makes -/
abbrev zAC : Type := (Nat × Nat × (Nat → Int32)) ⊕ ((Nat × Nat × (Nat → Option Nat)) ⊕ (Nat × List Value))
abbrev zAH : Type := (Nat → Option zAC) × Nat × Nat
abbrev zG : Type := Nat × Nat × Nat × Nat × (Nat → Int32) × va_G × (Nat → ClassId)
abbrev zB (g : zG) : Nat := g.1
abbrev zSa (g : zG) : Nat := g.2.1
abbrev zSb (g : zG) : Nat := g.2.2.1
abbrev zLn (g : zG) : Nat := g.2.2.2.1
abbrev zXs (g : zG) : Nat → Int32 := g.2.2.2.2.1
abbrev zD (g : zG) : va_G := g.2.2.2.2.2.1
abbrev zcA (g : zG) : Nat → ClassId := g.2.2.2.2.2.2
def zfr (g : zG) : Nat → Prop := fun q => zB g ≤ q
abbrev zCl : List vw_C := [(RX0, TX0, 8), (RX1, TX1, 12), (RX2, TX2, 3), (RX3, TX3, 2), (RX4, TX4, 18), (RX5, TX5, 37)]
abbrev zTy (g : zG) : List (ClassId × FieldType) := [(zcA g 0, .int), (zcA g 1, .byte), (zcA g 2, .boolean), (zcA g 3, .object RX3), (zcA g 4, .object RX1)]
def zBch : Nat → Int32 := fun j => if j = 0 then 2 else if j = 1 then 1 else if j = 2 then -1 else -3
def zca (g : zG) : Nat → Nat
  | 0 => zSa g
  | 1 => zSb g
  | i + 2 => zB g + i
def zcv (g : zG) : Value → Value
  | .ref i => .ref (zca g i)
  | w => w
def zcE (g : zG) (c : zAC) : va_E := match c with
  | .inl (k, n, f) => .inl (zcA g k, n, .inl f)
  | .inr (.inl (k, n, f)) => .inl (zcA g k, n, .inr (.inr (.inr (.inr (fun j => (f j).map (zca g))))))
  | .inr (.inr (ci, fs)) => .inr (ci, fs.map (zcv g))
/-- the heap holds the abstract heap -/
def zWd (g : zG) (h : zAH) (H : Heap) : Prop :=
  H.size = zB g + h.2.1 ∧ h.1 0 = some (.inl (0, 4, zBch)) ∧ h.1 1 = some (.inl (0, zLn g, zXs g)) ∧
  ∀ (i : Nat) (c : zAC), h.1 (i + 2) = some c → i < h.2.1 ∧ va_at (zD g) zCl (zB g + i, zcE g c) H
def zWT : List Cond := lw_tbl.filter goodWord
theorem zWT_in {w : Cond} (h : w ∈ lw_tbl) (hg : goodWord w = true) : w ∈ zWT := List.mem_filter.mpr ⟨h, hg⟩
theorem zWT_good : ∀ w ∈ zWT, w ∈ zWT ∧ ((w.onTables && w.keeps) = true ∨ ∃ ty, w = .arrayClass ty) := fun w h => ⟨h, good_of_word (List.mem_filter.mp h).2⟩
/-- what the tables, the static table and the script say, at a state -/
def zKs (g : zG) (U : State) (H : Heap) : Prop :=
  va_K (zD g) zCl (zTy g) U ∧ va_Z RX4 "BREATH_CHANGE" "[I" (.ref (zSa g)) (zfr g) U H ∧ va_T .int (zSa g) 4 (fun j => .int (zBch j)) (zfr g) U H ∧
  va_X (zSb g) (zLn g) (zXs g) U H ∧ zSb g < zB g ∧ zSa g < zB g ∧
  va_Nw (.methodLinkNest RX4 20 yX0_init RX4) U ∧ va_Nw (.methodLinkNest RX4 30 yX1_init RX4) U ∧ va_Nw (.fieldLinkNest RX1 100 RX4 "BREATH_CHANGE" "[I" RX4) U ∧ va_AO RX3 U ∧ va_AO RX1 U
theorem zKs.moved {g : zG} {u U : State} {H H1 : Heap} (h : zKs g u H) (hW : u.WarmedH U.vm) (hq : ∀ q : Nat, q < H.size → ¬ zfr g q → H1[q]? = H[q]?) : zKs g U H1 := by
  obtain ⟨h1, h2, h3, h4, h5, h6, h7, h8, h9, h10, h11⟩ := h
  have hb : zSb g < H.size := by
    obtain ⟨scr, e, -⟩ := h4
    exact (Array.getElem?_eq_some_iff.mp e).1
  exact ⟨h1.moved hW.alike, (h2.kept hq).moved hW.alike, (h3.kept hq).moved hW.alike, (h4.kept (hq _ hb (Nat.not_le.mpr h5))).moved hW.alike, h5, h6, h7.warmM hW, h8.warmM hW, h9.warmF hW, h10.moved hW.alike, h11.moved hW.alike⟩
theorem zKs.blind {g : zG} {U : State} {H : Heap} (h : zKs g U H) {V : State} (hv : V.vm = U.vm) : zKs g V H := by
  obtain ⟨h1, h2, h3, h4, h5, h6, h7, h8, h9, h10, h11⟩ := h
  have ha : U.vm.Alike V.vm := by rw [hv]; exact Vm.Alike.refl U.vm
  exact ⟨h1.moved ha, h2.moved ha, h3.moved ha, h4.moved ha, h5, h6, h7.same rfl hv.symm, h8.same rfl hv.symm, h9.same rfl hv.symm, h10.moved ha, h11.moved ha⟩
end
section
/-! heap operations of the abstract heap -/
def zup (h : zAH) (a : Nat) (c : zAC) : zAH := (va_up h.1 a (some c), h.2)
def zgO (ci a : Nat) (h : zAH) : Option (List Value) := match h.1 a with
  | some (.inr (.inr (c, fs))) => if c = ci then some fs else none
  | _ => none
def zvI : Option Value → Option Int32
  | some (.int x) => some x
  | _ => none
def zvL : Option Value → Option Int64
  | some (.long x) => some x
  | _ => none
def zvA : Option Value → Option Nat
  | some (.ref x) => some x
  | _ => none
def zgI (ci k a : Nat) (h : zAH) : Option Int32 := (zgO ci a h).bind fun fs => zvI fs[k]?
def zgL (ci k a : Nat) (h : zAH) : Option Int64 := (zgO ci a h).bind fun fs => zvL fs[k]?
def zgA (ci k a : Nat) (h : zAH) : Option Nat := (zgO ci a h).bind fun fs => zvA fs[k]?
def zpF (ci k a : Nat) (v : Value) (h : zAH) : Option zAH := if a < 2 then none else (zgO ci a h).bind fun fs => if k < fs.length then some (zup h a (.inr (.inr (ci, fs.set k v)))) else none
def zpZ (ci k a : Nat) (x : Int32) (h : zAH) : Option zAH := if x = 0 ∨ x = 1 then zpF ci k a (.int x) h else none
def zaI (kd a : Nat) (i : Int32) (h : zAH) : Option Int32 := match h.1 a with
  | some (.inl (k, n, f)) => if k = kd then (if i < 0 ∨ n ≤ i.toNatClampNeg then none else some (f i.toNatClampNeg)) else none
  | _ => none
def zaN (a : Nat) (h : zAH) : Option Int32 := match h.1 a with
  | some (.inl (k, n, _)) => if k < 3 then some (Int32.ofNat n) else none
  | some (.inr (.inl (k, n, _))) => if k = 3 ∨ k = 4 then some (Int32.ofNat n) else none
  | _ => none
def zaS (kd a : Nat) (i x : Int32) (h : zAH) : Option zAH := if a < 2 then none else match h.1 a with
  | some (.inl (k, n, f)) => if k = kd then (if i < 0 ∨ n ≤ i.toNatClampNeg then none else some (zup h a (.inl (k, n, upd f i.toNatClampNeg x)))) else none
  | _ => none
def zaR (kd a : Nat) (i : Int32) (h : zAH) : Option Nat := match h.1 a with
  | some (.inr (.inl (k, n, f))) => if k = kd then (if i < 0 ∨ n ≤ i.toNatClampNeg then none else f i.toNatClampNeg) else none
  | _ => none
/-- the class of the objects that an array of references of a kind holds -/
def zkc (kd : Nat) : Nat := if kd = 3 then 3 else 1
def zaQ (kd a : Nat) (i : Int32) (v : Nat) (h : zAH) : Option zAH := if a < 2 ∨ v < 2 then none else (zgO (zkc kd) v h).bind fun _ => match h.1 a with
  | some (.inr (.inl (k, n, f))) => if k = kd then (if i < 0 ∨ n ≤ i.toNatClampNeg then none else some (zup h a (.inr (.inl (k, n, va_up f i.toNatClampNeg (some v)))))) else none
  | _ => none
def znew (c : zAC) (w : Nat) (h : zAH) : zAH := (va_up h.1 (h.2.1 + 2) (some c), h.2.1 + 1, h.2.2 + w)
def znO (ci : Nat) (fs : List Value) (h : zAH) : zAH := znew (.inr (.inr (ci, fs))) fs.length h
def znI (kd : Nat) (n : Int32) (h : zAH) : Option zAH := if n < 0 ∨ 1000 < n.toNatClampNeg then none else some (znew (.inl (kd, n.toNatClampNeg, fun _ => 0)) n.toNatClampNeg h)
def znR (kd : Nat) (n : Int32) (h : zAH) : Option zAH := if n < 0 ∨ 1000 < n.toNatClampNeg then none else some (znew (.inr (.inl (kd, n.toNatClampNeg, fun _ => none))) n.toNatClampNeg h)
def zcp (a : Nat) (sp : Int32) (b : Nat) (dp n : Int32) (h : zAH) : Option zAH := if a < 2 ∨ b < 2 ∨ sp < 0 ∨ dp < 0 ∨ n < 0 then none else match h.1 a, h.1 b with
  | some (.inl (k, n0, f)), some (.inl (k', n1, f')) => if k = 0 ∧ k' = 0 ∧ sp.toNatClampNeg + n.toNatClampNeg ≤ n0 ∧ dp.toNatClampNeg + n.toNatClampNeg ≤ n1 then some (zup h b (.inl (0, n1, va_cpy f f' sp.toNatClampNeg dp.toNatClampNeg n.toNatClampNeg))) else none
  | _, _ => none
/-! the judgement: from here the machine does what k says -/
def zlm (g : zG) (lv : List (Nat × Value)) : List (Nat × Value) := lv.map fun q => (q.1, zcv g q.2)
def zEn (g : zG) (cc : ByteArray) (nL : Nat) (own nm : String) (ret : Option FieldType) (F L : Nat) (h h' : zAH) (lv : List (Nat × Value)) (p : Program) (s : State) (m : MethodId) (args : Array Value) (meth : Method) (c : Code) (H : Heap) (locs : List Loc) (ls : Array Slot) (n0 s0 : Nat) (R : Room) : Prop :=
  (p.tables.exec = Jvm.exec ∧ c.code = cc ∧ c.maxLocals = nL ∧ s.vm.findClass own = some m.cls ∧ (∀ w ∈ zWT, w.before args s = true) ∧ meth.sig.returnType = ret ∧ meth.locks = false ∧ meth.name = nm) ∧
  zKs g s s.heap ∧ va_S (zfr g) s.heap H locs ∧ zWd g h H ∧ zB g ≤ s.heap.size ∧ lv_has ls nL (zlm g lv) ∧ (n0 ≤ h.2.1 ∧ s0 ≤ h.2.2) ∧ F ≤ R.frames ∧ L ≤ R.locals ∧ h'.2.1 - n0 ≤ R.cells ∧ h'.2.2 - s0 ≤ R.slots
def zQ {ρ : Type} (g : zG) (rv : ρ → Option Value) (r : ρ) (h' : zAH) : Array Value → State → Outcome → State → Prop := fun _ st o t => o = .returned (rv r) ∧ zWd g h' t.heap ∧ ∀ q, q < zB g → t.heap[q]? = st.heap[q]?
def zSm {ρ : Type} (g : zG) (l : Launch) (cc : ByteArray) (nL : Nat) (own nm : String) (ret : Option FieldType) (F L : Nat) (rv : ρ → Option Value) (pc : Nat) (lv : List (Nat × Value)) (st : List Value) (k : zAH → Option (ρ × zAH)) : Prop :=
  ∀ (h : zAH) (r : ρ) (h' : zAH), k h = some (r, h') → (h.2.1 ≤ h'.2.1 ∧ h.2.2 ≤ h'.2.2) ∧ ∀ p e s m args below meth c H locs ls n0 s0 R, zEn g cc nL own nm ret F L h h' lv p s m args meth c H locs ls n0 s0 R →
    W p l e R s m args below meth c H locs (h.2.1 - n0) (h.2.2 - s0) (MQ below (zQ g rv r h') args s (h'.2.1 - n0) (h'.2.2 - s0) (zfr g)) (F0 m pc ls (st.map (zcv g)))
def zCt {ρ : Type} (g : zG) (l : Launch) (y : MethodName) (cc : ByteArray) (nL : Nat) (ret : Option FieldType) (F L : Nat) (rv : ρ → Option Value) (av : List Value) (d : zAH → Option (ρ × zAH)) : Prop :=
  ∀ (h : zAH) (r : ρ) (h' : zAH), d h = some (r, h') → (h.2.1 ≤ h'.2.1 ∧ h.2.2 ≤ h'.2.2) ∧
    Met l y (.code y cc nL ret :: zWT) { frames := F, cells := h'.2.1 - h.2.1, slots := h'.2.2 - h.2.2, locals := L } (va_Pc (av.map (zcv g)) (fun U => zWd g h U.heap ∧ zKs g U U.heap)) (zQ g rv r h') (h'.2.1 - h.2.1) (h'.2.2 - h.2.2) (zfr g)
section zR
variable {ρ : Type} {g : zG} {l : Launch} {cc : ByteArray} {nL : Nat} {own nm : String} {ret : Option FieldType} {F L : Nat} {rv : ρ → Option Value} {pc : Nat} {lv : List (Nat × Value)} {st : List Value} {k : zAH → Option (ρ × zAH)}
theorem zlift {pc' : Nat} {st' : List Value} (hk : zSm g l cc nL own nm ret F L rv pc' lv st' k)
    (f : ∀ {p : Program} {e : Env} {R : Room} {s : State} {m : MethodId} {args : Array Value} {below : List Frame} {meth : Method} {c : Code} {H : Heap} {locs : List Loc} {ls : Array Slot} {cells slots : Nat} {Q : State → Prop}, p.tables.exec = Jvm.exec → c.code = cc → s.vm.findClass own = some m.cls → (∀ w ∈ zWT, w.before args s = true) → lv_has ls nL (zlm g lv) →
      W p l e R s m args below meth c H locs cells slots Q (F0 m pc' ls (st'.map (zcv g))) → W p l e R s m args below meth c H locs cells slots Q (F0 m pc ls (st.map (zcv g)))) : zSm g l cc nL own nm ret F L rv pc lv st k := by
  intro h r h' hd
  obtain ⟨hm, hw⟩ := hk h r h' hd
  refine ⟨hm, fun p e s m args below meth c H locs ls n0 s0 R E => ?_⟩
  have E1 := E
  obtain ⟨⟨hx, hb, -, ho, ht, -⟩, -, -, -, -, hl, -⟩ := E1
  exact f hx hb ho ht hl (hw p e s m args below meth c H locs ls n0 s0 R E)
theorem zlat {ls : Array Slot} {i : Nat} {v : Value} (hl : lv_has ls nL (zlm g lv)) (j : Nat) (h : lv[j]? = some (i, v)) : ls[i]? = some (.val (zcv g v)) := lv_at hl j (by rw [zlm, List.getElem?_map, h]; rfl)
theorem zcat (v : Value) : (zcv g v).category = v.category := by cases v <;> rfl
theorem zsub {lv' : List (Nat × Value)} (ks : List Nat) (he : lv_pick lv ks = lv') (hk : zSm g l cc nL own nm ret F L rv pc lv' st k) : zSm g l cc nL own nm ret F L rv pc lv st k := by
  intro h r h' hd
  obtain ⟨hm, hw⟩ := hk h r h' hd
  refine ⟨hm, fun p e s m args below meth c H locs ls n0 s0 R E => ?_⟩
  obtain ⟨h1, h2, h3, h4, h5, hl, h6⟩ := E
  refine hw p e s m args below meth c H locs ls n0 s0 R ⟨h1, h2, h3, h4, h5, ?_, h6⟩
  subst he
  refine lv_sub hl ks ?_
  simp only [lv_pick, zlm, List.map_filterMap, List.getElem?_map]
def zst1 (i : Nat) (v : Value) (lv : List (Nat × Value)) : List (Nat × Value) := (i, v) :: lv.filter (fun q => !(q.1 == i) && !(q.1 + 1 == i && q.2.category == 2))
def zst2 (i : Nat) (v : Value) (lv : List (Nat × Value)) : List (Nat × Value) := (i, v) :: lv.filter (fun q => !(q.1 == i) && (!(q.1 == i + 1) && !(q.1 + 1 == i && q.2.category == 2)))
theorem zst1_map (i : Nat) (v : Value) : (i, zcv g v) :: (zlm g lv).filter (fun q => !(q.1 == i) && !(q.1 + 1 == i && q.2.category == 2)) = zlm g (zst1 i v lv) := by
  simp only [zlm, zst1, List.map_cons, List.filter_map]
  congr 2
  apply List.filter_congr
  intro q _
  simp only [Function.comp, zcat]
theorem zst2_map (i : Nat) (v : Value) : (i, zcv g v) :: (zlm g lv).filter (fun q => !(q.1 == i) && (!(q.1 == i + 1) && !(q.1 + 1 == i && q.2.category == 2))) = zlm g (zst2 i v lv) := by
  simp only [zlm, zst2, List.map_cons, List.filter_map]
  congr 2
  apply List.filter_congr
  intro q _
  simp only [Function.comp, zcat]
/-- as zlift, with new locals -/
theorem zliftS {pc' : Nat} {lv' : List (Nat × Value)} {st' : List Value} (hk : zSm g l cc nL own nm ret F L rv pc' lv' st' k)
    (f : ∀ {p : Program} {e : Env} {R : Room} {s : State} {m : MethodId} {args : Array Value} {below : List Frame} {meth : Method} {c : Code} {H : Heap} {locs : List Loc} {ls : Array Slot} {cells slots : Nat} {Q : State → Prop}, p.tables.exec = Jvm.exec → c.code = cc → lv_has ls nL (zlm g lv) →
      (∀ ls' : Array Slot, lv_has ls' nL (zlm g lv') → W p l e R s m args below meth c H locs cells slots Q (F0 m pc' ls' (st'.map (zcv g)))) → W p l e R s m args below meth c H locs cells slots Q (F0 m pc ls (st.map (zcv g)))) : zSm g l cc nL own nm ret F L rv pc lv st k := by
  intro h r h' hd
  obtain ⟨hm, hw⟩ := hk h r h' hd
  refine ⟨hm, fun p e s m args below meth c H locs ls n0 s0 R E => ?_⟩
  obtain ⟨h1, h2, h3, h4, h5, hl, h6⟩ := E
  exact f h1.1 h1.2.1 hl (fun ls' hl' => hw p e s m args below meth c H locs ls' n0 s0 R ⟨h1, h2, h3, h4, h5, hl', h6⟩)
end zR
end
section
theorem z_irem_e (x y : Int32) : x % y = x - x / y * y := by first | exact (irem_eq_mod x y).symm | exact irem_eq_mod x y
theorem z_lrem_e (x y : Int64) : x % y = x - x / y * y := by
  symm
  apply Int64.toInt_inj.mp
  have h1 := Int64.le_toInt (x % y)
  have h2 := Int64.toInt_lt (x % y)
  rw [Int64.toInt_sub, Int64.toInt_mul, Int64.toInt_div, Int.bmod_mul_bmod, Int.sub_bmod_bmod, Int.mul_comm (x.toInt.tdiv y.toInt), ← Int.tmod_def, ← Int64.toInt_mod]
  exact Int.bmod_eq_of_le_mul_two (by omega) (by omega)
theorem z_idiv_e (x y : Int32) : x / y = x / y := rfl
theorem z_ldiv_e (x y : Int64) : x / y = x / y := rfl
section zR1
variable {ρ : Type} {g : zG} {l : Launch} {cc : ByteArray} {nL : Nat} {own nm : String} {ret : Option FieldType} {F L : Nat} {rv : ρ → Option Value} {pc q t : Nat} {lv lv' : List (Nat × Value)} {st : List Value} {k k1 k2 : zAH → Option (ρ × zAH)}
theorem z_iconst {n : Int} {v : Int32} (hd : decode cc pc = .ok (.iconst n, 1)) (he : pc + 1 = q) (hv : Int32.ofInt n = v) (hk : zSm g l cc nL own nm ret F L rv q lv (.int v :: st) k) : zSm g l cc nL own nm ret F L rv pc lv (st) k := by
  subst he
  exact zlift hk (fun hx hb ho ht hl kk => lv_iconst hx hb hd hv kk)
theorem z_bipush {n : Int} {v : Int32} (hd : decode cc pc = .ok (.bipush n, 2)) (he : pc + 2 = q) (hv : (Int8.ofInt n).toInt32 = v) (hk : zSm g l cc nL own nm ret F L rv q lv (.int v :: st) k) : zSm g l cc nL own nm ret F L rv pc lv (st) k := by
  subst he
  exact zlift hk (fun hx hb ho ht hl kk => lv_bipush hx hb hd hv kk)
theorem z_sipush {n : Int} {v : Int32} (hd : decode cc pc = .ok (.sipush n, 3)) (he : pc + 3 = q) (hv : (Int16.ofInt n).toInt32 = v) (hk : zSm g l cc nL own nm ret F L rv q lv (.int v :: st) k) : zSm g l cc nL own nm ret F L rv pc lv (st) k := by
  subst he
  exact zlift hk (fun hx hb ho ht hl kk => lv_sipush hx hb hd hv kk)
theorem z_lconst {n : Fin 2} {v : Int64} (hd : decode cc pc = .ok (.lconst n, 1)) (he : pc + 1 = q) (hv : Int64.ofNat (n : Nat) = v) (hk : zSm g l cc nL own nm ret F L rv q lv (.long v :: st) k) : zSm g l cc nL own nm ret F L rv pc lv (st) k := by
  subst he
  exact zlift hk (fun hx hb ho ht hl kk => lv_lconst hx hb hd hv kk)
theorem z_ldc {i : Nat} {v : Int32} (hd : decode cc pc = .ok (.ldc i, 2)) (he : pc + 2 = q) (hw : Jvm.Cond.constant own i v ∈ zWT) (hk : zSm g l cc nL own nm ret F L rv q lv (.int v :: st) k) : zSm g l cc nL own nm ret F L rv pc lv (st) k := by
  subst he
  exact zlift hk (fun hx hb ho ht hl kk => lv_ldc hx hb ho (ht _ hw) hd kk)
theorem z_ldcw {i : Nat} {v : Int32} (hd : decode cc pc = .ok (.ldc_w i, 3)) (he : pc + 3 = q) (hw : Jvm.Cond.constant own i v ∈ zWT) (hk : zSm g l cc nL own nm ret F L rv q lv (.int v :: st) k) : zSm g l cc nL own nm ret F L rv pc lv (st) k := by
  subst he
  exact zlift hk (fun hx hb ho ht hl kk => lv_ldcw hx hb ho (ht _ hw) hd kk)
theorem z_ldc2 {i : Nat} {v : Int64} (hd : decode cc pc = .ok (.ldc2_w i, 3)) (he : pc + 3 = q) (hw : Jvm.Cond.constantLong own i v ∈ zWT) (hk : zSm g l cc nL own nm ret F L rv q lv (.long v :: st) k) : zSm g l cc nL own nm ret F L rv pc lv (st) k := by
  subst he
  exact zlift hk (fun hx hb ho ht hl kk => lv_ldc2 hx hb ho (ht _ hw) hd kk)
theorem z_iload_n {j : Fin 4} {x : Int32} (hd : decode cc pc = .ok (.iload_n j, 1)) (he : pc + 1 = q) (b : Nat) (hl0 : lv[b]? = some ((j : Nat), .int x)) (hk : zSm g l cc nL own nm ret F L rv q lv (.int x :: st) k) : zSm g l cc nL own nm ret F L rv pc lv (st) k := by
  subst he
  exact zlift hk (fun hx hb ho ht hl kk => lv_iload_n hx hb hd rfl (zlat hl b hl0) kk)
theorem z_iload {j : Nat} {x : Int32} (hd : decode cc pc = .ok (.iload j, 2)) (he : pc + 2 = q) (b : Nat) (hl0 : lv[b]? = some (j, .int x)) (hk : zSm g l cc nL own nm ret F L rv q lv (.int x :: st) k) : zSm g l cc nL own nm ret F L rv pc lv (st) k := by
  subst he
  exact zlift hk (fun hx hb ho ht hl kk => lv_iload hx hb hd (zlat hl b hl0) kk)
theorem z_istore_n {j : Fin 4} {x : Int32} (hd : decode cc pc = .ok (.istore_n j, 1)) (he : pc + 1 = q) (hn : (j : Nat) < nL) (hl0 : zst1 (j : Nat) (.int x) lv = lv') (hk : zSm g l cc nL own nm ret F L rv q lv' st k) : zSm g l cc nL own nm ret F L rv pc lv (.int x :: st) k := by
  subst he; subst hl0
  exact zliftS hk (fun hx hb hl kk => lv_istore_n hx hb hd rfl hl hn (zst1_map _ (.int x)) kk)
theorem z_istore {j : Nat} {x : Int32} (hd : decode cc pc = .ok (.istore j, 2)) (he : pc + 2 = q) (hn : (j : Nat) < nL) (hl0 : zst1 j (.int x) lv = lv') (hk : zSm g l cc nL own nm ret F L rv q lv' st k) : zSm g l cc nL own nm ret F L rv pc lv (.int x :: st) k := by
  subst he; subst hl0
  exact zliftS hk (fun hx hb hl kk => lv_istore hx hb hd hl hn (zst1_map _ (.int x)) kk)
theorem z_lload_n {j : Fin 4} {x : Int64} (hd : decode cc pc = .ok (.lload_n j, 1)) (he : pc + 1 = q) (b : Nat) (hl0 : lv[b]? = some ((j : Nat), .long x)) (hk : zSm g l cc nL own nm ret F L rv q lv (.long x :: st) k) : zSm g l cc nL own nm ret F L rv pc lv (st) k := by
  subst he
  exact zlift hk (fun hx hb ho ht hl kk => lv_lload_n hx hb hd rfl (zlat hl b hl0) kk)
theorem z_lload {j : Nat} {x : Int64} (hd : decode cc pc = .ok (.lload j, 2)) (he : pc + 2 = q) (b : Nat) (hl0 : lv[b]? = some (j, .long x)) (hk : zSm g l cc nL own nm ret F L rv q lv (.long x :: st) k) : zSm g l cc nL own nm ret F L rv pc lv (st) k := by
  subst he
  exact zlift hk (fun hx hb ho ht hl kk => lv_lload hx hb hd (zlat hl b hl0) kk)
theorem z_lstore_n {j : Fin 4} {x : Int64} (hd : decode cc pc = .ok (.lstore_n j, 1)) (he : pc + 1 = q) (hn : (j : Nat) + 1 < nL) (hl0 : zst2 (j : Nat) (.long x) lv = lv') (hk : zSm g l cc nL own nm ret F L rv q lv' st k) : zSm g l cc nL own nm ret F L rv pc lv (.long x :: st) k := by
  subst he; subst hl0
  exact zliftS hk (fun hx hb hl kk => lv_lstore_n hx hb hd rfl hl hn (zst2_map _ (.long x)) kk)
theorem z_lstore {j : Nat} {x : Int64} (hd : decode cc pc = .ok (.lstore j, 2)) (he : pc + 2 = q) (hn : (j : Nat) + 1 < nL) (hl0 : zst2 j (.long x) lv = lv') (hk : zSm g l cc nL own nm ret F L rv q lv' st k) : zSm g l cc nL own nm ret F L rv pc lv (.long x :: st) k := by
  subst he; subst hl0
  exact zliftS hk (fun hx hb hl kk => lv_lstore hx hb hd hl hn (zst2_map _ (.long x)) kk)
theorem z_aload_n {j : Fin 4} {x : Nat} (hd : decode cc pc = .ok (.aload_n j, 1)) (he : pc + 1 = q) (b : Nat) (hl0 : lv[b]? = some ((j : Nat), .ref x)) (hk : zSm g l cc nL own nm ret F L rv q lv (.ref x :: st) k) : zSm g l cc nL own nm ret F L rv pc lv (st) k := by
  subst he
  exact zlift hk (fun hx hb ho ht hl kk => lv_aload_n hx hb hd rfl (zlat hl b hl0) kk)
theorem z_aload {j : Nat} {x : Nat} (hd : decode cc pc = .ok (.aload j, 2)) (he : pc + 2 = q) (b : Nat) (hl0 : lv[b]? = some (j, .ref x)) (hk : zSm g l cc nL own nm ret F L rv q lv (.ref x :: st) k) : zSm g l cc nL own nm ret F L rv pc lv (st) k := by
  subst he
  exact zlift hk (fun hx hb ho ht hl kk => lv_aload hx hb hd (zlat hl b hl0) kk)
theorem z_astore_n {j : Fin 4} {x : Nat} (hd : decode cc pc = .ok (.astore_n j, 1)) (he : pc + 1 = q) (hn : (j : Nat) < nL) (hl0 : zst1 (j : Nat) (.ref x) lv = lv') (hk : zSm g l cc nL own nm ret F L rv q lv' st k) : zSm g l cc nL own nm ret F L rv pc lv (.ref x :: st) k := by
  subst he; subst hl0
  exact zliftS hk (fun hx hb hl kk => lv_astore_n hx hb hd rfl hl hn (zst1_map _ (.ref x)) kk)
theorem z_astore {j : Nat} {x : Nat} (hd : decode cc pc = .ok (.astore j, 2)) (he : pc + 2 = q) (hn : (j : Nat) < nL) (hl0 : zst1 j (.ref x) lv = lv') (hk : zSm g l cc nL own nm ret F L rv q lv' st k) : zSm g l cc nL own nm ret F L rv pc lv (.ref x :: st) k := by
  subst he; subst hl0
  exact zliftS hk (fun hx hb hl kk => lv_astore hx hb hd hl hn (zst1_map _ (.ref x)) kk)
theorem z_iinc {j : Nat} {n : Int} {x v : Int32} (hd : decode cc pc = .ok (.iinc j n, 3)) (he : pc + 3 = q) (b : Nat) (hb0 : lv[b]? = some (j, .int x)) (hv : Int32.ofInt n = v) (hn : j < nL) (hl0 : zst1 j (.int (x + v)) lv = lv') (hk : zSm g l cc nL own nm ret F L rv q lv' st k) : zSm g l cc nL own nm ret F L rv pc lv st k := by
  subst he; subst hl0; subst hv
  exact zliftS hk (fun hx hb hl kk => lv_iinc hx hb hd hl (k := b) (by rw [zlm, List.getElem?_map, hb0]; rfl) rfl hn (zst1_map _ (.int (x + Int32.ofInt n))) kk)
theorem z_iadd {x y : Int32} (hd : decode cc pc = .ok (.iadd, 1)) (he : pc + 1 = q) (hk : zSm g l cc nL own nm ret F L rv q lv (.int (x + y) :: st) k) : zSm g l cc nL own nm ret F L rv pc lv (.int y :: .int x :: st) k := by
  subst he
  exact zlift hk (fun hx hb ho ht hl kk => lv_iadd hx hb hd kk)
theorem z_isub {x y : Int32} (hd : decode cc pc = .ok (.isub, 1)) (he : pc + 1 = q) (hk : zSm g l cc nL own nm ret F L rv q lv (.int (x - y) :: st) k) : zSm g l cc nL own nm ret F L rv pc lv (.int y :: .int x :: st) k := by
  subst he
  exact zlift hk (fun hx hb ho ht hl kk => lv_isub hx hb hd kk)
theorem z_imul {x y : Int32} (hd : decode cc pc = .ok (.imul, 1)) (he : pc + 1 = q) (hk : zSm g l cc nL own nm ret F L rv q lv (.int (x * y) :: st) k) : zSm g l cc nL own nm ret F L rv pc lv (.int y :: .int x :: st) k := by
  subst he
  exact zlift hk (fun hx hb ho ht hl kk => lv_imul hx hb hd kk)
theorem z_iand {x y : Int32} (hd : decode cc pc = .ok (.iand, 1)) (he : pc + 1 = q) (hk : zSm g l cc nL own nm ret F L rv q lv (.int (x &&& y) :: st) k) : zSm g l cc nL own nm ret F L rv pc lv (.int y :: .int x :: st) k := by
  subst he
  exact zlift hk (fun hx hb ho ht hl kk => lv_iand hx hb hd kk)
theorem z_ior {x y : Int32} (hd : decode cc pc = .ok (.ior, 1)) (he : pc + 1 = q) (hk : zSm g l cc nL own nm ret F L rv q lv (.int (x ||| y) :: st) k) : zSm g l cc nL own nm ret F L rv pc lv (.int y :: .int x :: st) k := by
  subst he
  exact zlift hk (fun hx hb ho ht hl kk => lv_ior hx hb hd kk)
theorem z_ixor {x y : Int32} (hd : decode cc pc = .ok (.ixor, 1)) (he : pc + 1 = q) (hk : zSm g l cc nL own nm ret F L rv q lv (.int (x ^^^ y) :: st) k) : zSm g l cc nL own nm ret F L rv pc lv (.int y :: .int x :: st) k := by
  subst he
  exact zlift hk (fun hx hb ho ht hl kk => lv_ixor hx hb hd kk)
theorem z_ishl {x y : Int32} (hd : decode cc pc = .ok (.ishl, 1)) (he : pc + 1 = q) (hk : zSm g l cc nL own nm ret F L rv q lv (.int (x <<< (y &&& 31)) :: st) k) : zSm g l cc nL own nm ret F L rv pc lv (.int y :: .int x :: st) k := by
  subst he
  exact zlift hk (fun hx hb ho ht hl kk => lv_ishl hx hb hd kk)
theorem z_ishr {x y : Int32} (hd : decode cc pc = .ok (.ishr, 1)) (he : pc + 1 = q) (hk : zSm g l cc nL own nm ret F L rv q lv (.int (x >>> (y &&& 31)) :: st) k) : zSm g l cc nL own nm ret F L rv pc lv (.int y :: .int x :: st) k := by
  subst he
  exact zlift hk (fun hx hb ho ht hl kk => lv_ishr hx hb hd kk)
theorem z_iushr {x y : Int32} (hd : decode cc pc = .ok (.iushr, 1)) (he : pc + 1 = q) (hk : zSm g l cc nL own nm ret F L rv q lv (.int ((x.toUInt32 >>> (y.toUInt32 &&& Int32.toUInt32 31)).toInt32) :: st) k) : zSm g l cc nL own nm ret F L rv pc lv (.int y :: .int x :: st) k := by
  subst he
  exact zlift hk (fun hx hb ho ht hl kk => lv_iushr hx hb hd rfl kk)
theorem z_ladd {x y : Int64} (hd : decode cc pc = .ok (.ladd, 1)) (he : pc + 1 = q) (hk : zSm g l cc nL own nm ret F L rv q lv (.long (x + y) :: st) k) : zSm g l cc nL own nm ret F L rv pc lv (.long y :: .long x :: st) k := by
  subst he
  exact zlift hk (fun hx hb ho ht hl kk => lv_ladd hx hb hd kk)
theorem z_lsub {x y : Int64} (hd : decode cc pc = .ok (.lsub, 1)) (he : pc + 1 = q) (hk : zSm g l cc nL own nm ret F L rv q lv (.long (x - y) :: st) k) : zSm g l cc nL own nm ret F L rv pc lv (.long y :: .long x :: st) k := by
  subst he
  exact zlift hk (fun hx hb ho ht hl kk => lv_lsub hx hb hd kk)
theorem z_lmul {x y : Int64} (hd : decode cc pc = .ok (.lmul, 1)) (he : pc + 1 = q) (hk : zSm g l cc nL own nm ret F L rv q lv (.long (x * y) :: st) k) : zSm g l cc nL own nm ret F L rv pc lv (.long y :: .long x :: st) k := by
  subst he
  exact zlift hk (fun hx hb ho ht hl kk => lv_lmul hx hb hd kk)
theorem z_i2l {x : Int32} (hd : decode cc pc = .ok (.i2l, 1)) (he : pc + 1 = q) (hk : zSm g l cc nL own nm ret F L rv q lv (.long x.toInt64 :: st) k) : zSm g l cc nL own nm ret F L rv pc lv (.int x :: st) k := by
  subst he
  exact zlift hk (fun hx hb ho ht hl kk => lv_i2l hx hb hd rfl kk)
theorem z_l2i {x : Int64} (hd : decode cc pc = .ok (.l2i, 1)) (he : pc + 1 = q) (hk : zSm g l cc nL own nm ret F L rv q lv (.int x.toInt32 :: st) k) : zSm g l cc nL own nm ret F L rv pc lv (.long x :: st) k := by
  subst he
  exact zlift hk (fun hx hb ho ht hl kk => lv_l2i hx hb hd rfl kk)
theorem z_i2b {x : Int32} (hd : decode cc pc = .ok (.i2b, 1)) (he : pc + 1 = q) (hk : zSm g l cc nL own nm ret F L rv q lv (.int x.toInt8.toInt32 :: st) k) : zSm g l cc nL own nm ret F L rv pc lv (.int x :: st) k := by
  subst he
  exact zlift hk (fun hx hb ho ht hl kk => lv_i2b hx hb hd rfl kk)
theorem z_lcmp {x y : Int64} (hd : decode cc pc = .ok (.lcmp, 1)) (he : pc + 1 = q) (hk : zSm g l cc nL own nm ret F L rv q lv (.int (lg_cmp x y) :: st) k) : zSm g l cc nL own nm ret F L rv pc lv (.long y :: .long x :: st) k := by
  subst he
  exact zlift hk (fun hx hb ho ht hl kk => W.lcmp hx hb hd kk)
theorem z_dup {v : Value} (hd : decode cc pc = .ok (.dup, 1)) (he : pc + 1 = q) (hc : v.category = 1) (hk : zSm g l cc nL own nm ret F L rv q lv (v :: v :: st) k) : zSm g l cc nL own nm ret F L rv pc lv (v :: st) k := by
  subst he
  exact zlift hk (fun hx hb ho ht hl kk => lv_dup hx hb hd (by rw [zcat]; exact hc) kk)
theorem z_dup2 {v w : Value} (hd : decode cc pc = .ok (.dup2, 1)) (he : pc + 1 = q) (hc : v.category = 1) (hc2 : w.category = 1) (hk : zSm g l cc nL own nm ret F L rv q lv (v :: w :: v :: w :: st) k) : zSm g l cc nL own nm ret F L rv pc lv (v :: w :: st) k := by
  subst he
  exact zlift hk (fun hx hb ho ht hl kk => lv_dup2_11 hx hb hd (by rw [zcat]; exact hc) (by rw [zcat]; exact hc2) kk)
theorem z_goto {off : Int} (hd : decode cc pc = .ok (.goto off, 3)) (ht0 : (pc : Int) + off = (t : Int)) (hk : zSm g l cc nL own nm ret F L rv t lv st k) : zSm g l cc nL own nm ret F L rv pc lv st k := zlift hk (fun hx hb _ _ _ kk => lv_goto hx hb hd ht0 kk)
theorem z_if {c : Prop} {hcd : Decidable c} {st' : List Value} (kt : zSm g l cc nL own nm ret F L rv t lv st k1) (kf : zSm g l cc nL own nm ret F L rv q lv st k2)
    (f : ∀ {p : Program} {e : Env} {R : Room} {s : State} {m : MethodId} {args : Array Value} {below : List Frame} {meth : Method} {c0 : Code} {H : Heap} {locs : List Loc} {ls : Array Slot} {cells slots : Nat} {Q : State → Prop}, p.tables.exec = Jvm.exec → c0.code = cc →
      (c → W p l e R s m args below meth c0 H locs cells slots Q (F0 m t ls (st.map (zcv g)))) → (¬ c → W p l e R s m args below meth c0 H locs cells slots Q (F0 m q ls (st.map (zcv g)))) → W p l e R s m args below meth c0 H locs cells slots Q (F0 m pc ls (st'.map (zcv g)))) : zSm g l cc nL own nm ret F L rv pc lv st' (fun h => if c then k1 h else k2 h) := by
  intro h r h' hd
  replace hd : (if c then k1 h else k2 h) = some (r, h') := hd
  by_cases hc : c
  · rw [if_pos hc] at hd
    obtain ⟨hm, hw⟩ := kt h r h' hd
    exact ⟨hm, fun p e s m args below meth c0 H locs ls n0 s0 R E => f E.1.1 E.1.2.1 (fun _ => hw p e s m args below meth c0 H locs ls n0 s0 R E) (fun z => absurd hc z)⟩
  · rw [if_neg hc] at hd
    obtain ⟨hm, hw⟩ := kf h r h' hd
    exact ⟨hm, fun p e s m args below meth c0 H locs ls n0 s0 R E => f E.1.1 E.1.2.1 (fun z => absurd z hc) (fun _ => hw p e s m args below meth c0 H locs ls n0 s0 R E)⟩
theorem z_if_eq {x : Int32} {off : Int} (hd : decode cc pc = .ok (.ifCond .eq off, 3)) (ht0 : (pc : Int) + off = (t : Int)) (he : pc + 3 = q) (kt : zSm g l cc nL own nm ret F L rv t lv st k1) (kf : zSm g l cc nL own nm ret F L rv q lv st k2) : zSm g l cc nL own nm ret F L rv pc lv (.int x :: st) (fun h => if x = 0 then k1 h else k2 h) := by
  subst he
  exact z_if kt kf (fun hx hb a b => lv_if_eq hx hb hd ht0 a b)
theorem z_icmp_eq {x y : Int32} {off : Int} (hd : decode cc pc = .ok (.if_icmp .eq off, 3)) (ht0 : (pc : Int) + off = (t : Int)) (he : pc + 3 = q) (kt : zSm g l cc nL own nm ret F L rv t lv st k1) (kf : zSm g l cc nL own nm ret F L rv q lv st k2) : zSm g l cc nL own nm ret F L rv pc lv (.int y :: .int x :: st) (fun h => if x = y then k1 h else k2 h) := by
  subst he
  exact z_if kt kf (fun hx hb a b => lv_icmp_eq hx hb hd ht0 a b)
theorem z_if_ne {x : Int32} {off : Int} (hd : decode cc pc = .ok (.ifCond .ne off, 3)) (ht0 : (pc : Int) + off = (t : Int)) (he : pc + 3 = q) (kt : zSm g l cc nL own nm ret F L rv t lv st k1) (kf : zSm g l cc nL own nm ret F L rv q lv st k2) : zSm g l cc nL own nm ret F L rv pc lv (.int x :: st) (fun h => if x = 0 then k2 h else k1 h) := by
  subst he
  exact z_if kf kt (fun hx hb a b => lv_if_ne hx hb hd ht0 b a)
theorem z_icmp_ne {x y : Int32} {off : Int} (hd : decode cc pc = .ok (.if_icmp .ne off, 3)) (ht0 : (pc : Int) + off = (t : Int)) (he : pc + 3 = q) (kt : zSm g l cc nL own nm ret F L rv t lv st k1) (kf : zSm g l cc nL own nm ret F L rv q lv st k2) : zSm g l cc nL own nm ret F L rv pc lv (.int y :: .int x :: st) (fun h => if x = y then k2 h else k1 h) := by
  subst he
  exact z_if kf kt (fun hx hb a b => lv_icmp_ne hx hb hd ht0 b a)
theorem z_if_lt {x : Int32} {off : Int} (hd : decode cc pc = .ok (.ifCond .lt off, 3)) (ht0 : (pc : Int) + off = (t : Int)) (he : pc + 3 = q) (kt : zSm g l cc nL own nm ret F L rv t lv st k1) (kf : zSm g l cc nL own nm ret F L rv q lv st k2) : zSm g l cc nL own nm ret F L rv pc lv (.int x :: st) (fun h => if x < 0 then k1 h else k2 h) := by
  subst he
  exact z_if kt kf (fun hx hb a b => lv_if_lt hx hb hd ht0 a b)
theorem z_icmp_lt {x y : Int32} {off : Int} (hd : decode cc pc = .ok (.if_icmp .lt off, 3)) (ht0 : (pc : Int) + off = (t : Int)) (he : pc + 3 = q) (kt : zSm g l cc nL own nm ret F L rv t lv st k1) (kf : zSm g l cc nL own nm ret F L rv q lv st k2) : zSm g l cc nL own nm ret F L rv pc lv (.int y :: .int x :: st) (fun h => if x < y then k1 h else k2 h) := by
  subst he
  exact z_if kt kf (fun hx hb a b => lv_icmp_lt hx hb hd ht0 a b)
theorem z_if_ge {x : Int32} {off : Int} (hd : decode cc pc = .ok (.ifCond .ge off, 3)) (ht0 : (pc : Int) + off = (t : Int)) (he : pc + 3 = q) (kt : zSm g l cc nL own nm ret F L rv t lv st k1) (kf : zSm g l cc nL own nm ret F L rv q lv st k2) : zSm g l cc nL own nm ret F L rv pc lv (.int x :: st) (fun h => if x < 0 then k2 h else k1 h) := by
  subst he
  exact z_if kf kt (fun hx hb a b => lv_if_ge hx hb hd ht0 (fun z => b (Int32.not_lt.mpr z)) (fun z => a (Int32.not_le.mp z)))
theorem z_icmp_ge {x y : Int32} {off : Int} (hd : decode cc pc = .ok (.if_icmp .ge off, 3)) (ht0 : (pc : Int) + off = (t : Int)) (he : pc + 3 = q) (kt : zSm g l cc nL own nm ret F L rv t lv st k1) (kf : zSm g l cc nL own nm ret F L rv q lv st k2) : zSm g l cc nL own nm ret F L rv pc lv (.int y :: .int x :: st) (fun h => if x < y then k2 h else k1 h) := by
  subst he
  exact z_if kf kt (fun hx hb a b => lv_icmp_ge hx hb hd ht0 (fun z => b (Int32.not_lt.mpr z)) (fun z => a (Int32.not_le.mp z)))
theorem z_if_gt {x : Int32} {off : Int} (hd : decode cc pc = .ok (.ifCond .gt off, 3)) (ht0 : (pc : Int) + off = (t : Int)) (he : pc + 3 = q) (kt : zSm g l cc nL own nm ret F L rv t lv st k1) (kf : zSm g l cc nL own nm ret F L rv q lv st k2) : zSm g l cc nL own nm ret F L rv pc lv (.int x :: st) (fun h => if 0 < x then k1 h else k2 h) := by
  subst he
  exact z_if kt kf (fun hx hb a b => lv_if_gt hx hb hd ht0 a b)
theorem z_icmp_gt {x y : Int32} {off : Int} (hd : decode cc pc = .ok (.if_icmp .gt off, 3)) (ht0 : (pc : Int) + off = (t : Int)) (he : pc + 3 = q) (kt : zSm g l cc nL own nm ret F L rv t lv st k1) (kf : zSm g l cc nL own nm ret F L rv q lv st k2) : zSm g l cc nL own nm ret F L rv pc lv (.int y :: .int x :: st) (fun h => if y < x then k1 h else k2 h) := by
  subst he
  exact z_if kt kf (fun hx hb a b => lv_icmp_gt hx hb hd ht0 a b)
theorem z_if_le {x : Int32} {off : Int} (hd : decode cc pc = .ok (.ifCond .le off, 3)) (ht0 : (pc : Int) + off = (t : Int)) (he : pc + 3 = q) (kt : zSm g l cc nL own nm ret F L rv t lv st k1) (kf : zSm g l cc nL own nm ret F L rv q lv st k2) : zSm g l cc nL own nm ret F L rv pc lv (.int x :: st) (fun h => if 0 < x then k2 h else k1 h) := by
  subst he
  exact z_if kf kt (fun hx hb a b => lv_if_le hx hb hd ht0 (fun z => b (Int32.not_lt.mpr z)) (fun z => a (Int32.not_le.mp z)))
theorem z_icmp_le {x y : Int32} {off : Int} (hd : decode cc pc = .ok (.if_icmp .le off, 3)) (ht0 : (pc : Int) + off = (t : Int)) (he : pc + 3 = q) (kt : zSm g l cc nL own nm ret F L rv t lv st k1) (kf : zSm g l cc nL own nm ret F L rv q lv st k2) : zSm g l cc nL own nm ret F L rv pc lv (.int y :: .int x :: st) (fun h => if y < x then k2 h else k1 h) := by
  subst he
  exact z_if kf kt (fun hx hb a b => lv_icmp_le hx hb hd ht0 (fun z => b (Int32.not_lt.mpr z)) (fun z => a (Int32.not_le.mp z)))
theorem z_idiv {x y : Int32} (hd : decode cc pc = .ok (.idiv, 1)) (he : pc + 1 = q) (hk : zSm g l cc nL own nm ret F L rv q lv (.int (x / y) :: st) k) : zSm g l cc nL own nm ret F L rv pc lv (.int y :: .int x :: st) (fun h => if y = 0 then none else k h) := by
  subst he
  intro h r h' hdn
  replace hdn : (if y = 0 then none else k h) = some (r, h') := hdn
  by_cases hc : y = 0
  · rw [if_pos hc] at hdn; cases hdn
  · rw [if_neg hc] at hdn
    have hk2 : zSm g l cc nL own nm ret F L rv pc lv (.int y :: .int x :: st) k := zlift hk (fun hx hb _ _ _ kk => lv_idiv hx hb hd hc (by first | exact kk | exact (z_idiv_e x y) ▸ kk))
    exact hk2 h r h' hdn
theorem z_irem {x y : Int32} (hd : decode cc pc = .ok (.irem, 1)) (he : pc + 1 = q) (hk : zSm g l cc nL own nm ret F L rv q lv (.int (x % y) :: st) k) : zSm g l cc nL own nm ret F L rv pc lv (.int y :: .int x :: st) (fun h => if y = 0 then none else k h) := by
  subst he
  intro h r h' hdn
  replace hdn : (if y = 0 then none else k h) = some (r, h') := hdn
  by_cases hc : y = 0
  · rw [if_pos hc] at hdn; cases hdn
  · rw [if_neg hc] at hdn
    have hk2 : zSm g l cc nL own nm ret F L rv pc lv (.int y :: .int x :: st) k := zlift hk (fun hx hb _ _ _ kk => lv_irem hx hb hd hc (by first | exact kk | exact (z_irem_e x y) ▸ kk))
    exact hk2 h r h' hdn
theorem z_ldiv {x y : Int64} (hd : decode cc pc = .ok (.ldiv, 1)) (he : pc + 1 = q) (hk : zSm g l cc nL own nm ret F L rv q lv (.long (x / y) :: st) k) : zSm g l cc nL own nm ret F L rv pc lv (.long y :: .long x :: st) (fun h => if y = 0 then none else k h) := by
  subst he
  intro h r h' hdn
  replace hdn : (if y = 0 then none else k h) = some (r, h') := hdn
  by_cases hc : y = 0
  · rw [if_pos hc] at hdn; cases hdn
  · rw [if_neg hc] at hdn
    have hk2 : zSm g l cc nL own nm ret F L rv pc lv (.long y :: .long x :: st) k := zlift hk (fun hx hb _ _ _ kk => lv_ldiv hx hb hd hc (by first | exact kk | exact (z_ldiv_e x y) ▸ kk))
    exact hk2 h r h' hdn
theorem z_lrem {x y : Int64} (hd : decode cc pc = .ok (.lrem, 1)) (he : pc + 1 = q) (hk : zSm g l cc nL own nm ret F L rv q lv (.long (x % y) :: st) k) : zSm g l cc nL own nm ret F L rv pc lv (.long y :: .long x :: st) (fun h => if y = 0 then none else k h) := by
  subst he
  intro h r h' hdn
  replace hdn : (if y = 0 then none else k h) = some (r, h') := hdn
  by_cases hc : y = 0
  · rw [if_pos hc] at hdn; cases hdn
  · rw [if_neg hc] at hdn
    have hk2 : zSm g l cc nL own nm ret F L rv pc lv (.long y :: .long x :: st) k := zlift hk (fun hx hb _ _ _ kk => lv_lrem hx hb hd hc (by first | exact kk | exact (z_lrem_e x y) ▸ kk))
    exact hk2 h r h' hdn
end zR1
end
section
/-! rules of the heap's instructions -/
theorem zgO_s {ci a : Nat} {h : zAH} {fs : List Value} (ho : zgO ci a h = some fs) : h.1 a = some (.inr (.inr (ci, fs))) := by
  unfold zgO at ho
  split at ho
  · split at ho
    · next hc => cases ho; subst hc; assumption
    · cases ho
  · cases ho
theorem zgO_at {g : zG} {h : zAH} {H : Heap} {ci a : Nat} {fs : List Value} (hW : zWd g h H) (ho : zgO ci a h = some fs) : ∃ i, a = i + 2 ∧ i < h.2.1 ∧ va_at (zD g) zCl (zB g + i, .inr (ci, fs.map (zcv g))) H := by
  have hc := zgO_s ho
  obtain ⟨h1, h2, h3, h4⟩ := hW
  match a, hc with
  | 0, hc => rw [h2] at hc; cases hc
  | 1, hc => rw [h3] at hc; cases hc
  | i + 2, hc =>
    obtain ⟨q1, q2⟩ := h4 i _ hc
    exact ⟨i, rfl, q1, q2⟩
theorem zP1 {g : zG} {H : Heap} {a : Nat} {e : va_E} (h : va_at (zD g) zCl (a, e) H) : va_P (zD g) zCl [(a, e)] H := by
  intro k q hk
  have hz : k < 1 := (List.getElem?_eq_some_iff.mp hk).1
  rw [show k = 0 by omega] at hk
  cases hk
  exact h
def zFl (own : String) (idx ci j : Nat) : Prop := ∃ (C : String) (T : u_T) (N : Nat), zCl[ci]? = some (C, T, N) ∧ (∀ w ∈ u_ws C T N, w ∈ zWT) ∧ j < N ∧ Cond.fieldLink own idx C (T j).2.1 (T j).2.2.1 ∈ zWT ∧ (T j).1 = C
def zPl (own : String) (idx ci j : Nat) (ty : FieldType) (fin : Bool) : Prop := ∃ (C : String) (T : u_T) (N : Nat) (ty0 : Nat → FieldType), zCl[ci]? = some (C, T, N) ∧ (∀ w ∈ u_ws C T N, w ∈ zWT) ∧ j < N ∧ Cond.fieldLink own idx C (T j).2.1 (T j).2.2.1 ∈ zWT ∧ (T j).1 = C ∧ (∀ k, k < N → parseFieldDescriptor (T k).2.2.1 = some (ty0 k)) ∧ (∀ a, a < N → ∀ b, b < N → a ≠ b → (T a).2.1 ≠ (T b).2.1) ∧ (T j).2.2.2 = fin ∧ parseFieldDescriptor (T j).2.2.1 = some ty ∧ (fin = true → C = own)
section zR2
variable {ρ : Type} {g : zG} {l : Launch} {cc : ByteArray} {nL : Nat} {own nm : String} {ret : Option FieldType} {F L : Nat} {rv : ρ → Option Value} {pc q t : Nat} {lv lv' : List (Nat × Value)} {st : List Value}
theorem z_getV {ci j a idx : Nat} {v : Value} {fs : List Value} {h h' : zAH} (hf : zFl own idx ci j) (ho : zgO ci a h = some fs) (hv : fs[j]? = some v) (hd : decode cc pc = .ok (.getfield idx, 3))
    {p : Program} {e : Env} {R : Room} {s : State} {m : MethodId} {args : Array Value} {below : List Frame} {meth : Method} {c : Code} {H : Heap} {locs : List Loc} {ls : Array Slot} {n0 s0 cells slots : Nat} {Q : State → Prop} (E : zEn g cc nL own nm ret F L h h' lv p s m args meth c H locs ls n0 s0 R)
    (kk : W p l e R s m args below meth c H locs cells slots Q (F0 m (pc + 3) ls ((v :: st).map (zcv g)))) : W p l e R s m args below meth c H locs cells slots Q (F0 m pc ls ((.ref a :: st).map (zcv g))) := by
  obtain ⟨⟨hx, hb, -, hown, ht, -⟩, hK, -, hW, -⟩ := E
  obtain ⟨C, T, N, f1, f2, f3, f4, f5⟩ := hf
  obtain ⟨i, rfl, q1, q2⟩ := zgO_at hW ho
  exact va_get (D := zD g) (cl := zCl) (ci := ci) hx hb ht f2 hown hK.1 (zP1 q2) 0 rfl f1 j f3 (ht _ f4) (fun x hx => by rw [f5] at hx; exact hx) (by rw [List.getElem?_map, hv]; rfl) hd kk
theorem z_getI {ci j a idx : Nat} {k : Int32 → zAH → Option (ρ × zAH)} (hf : zFl own idx ci j) (hd : decode cc pc = .ok (.getfield idx, 3)) (he : pc + 3 = q) (hk : ∀ x, zSm g l cc nL own nm ret F L rv q lv (.int x :: st) (k x)) : zSm g l cc nL own nm ret F L rv pc lv (.ref a :: st) (fun h => (zgI ci j a h).bind fun x => k x h) := by
  subst he
  intro h r h' hdn
  obtain ⟨x, hg, hdn⟩ := Option.bind_eq_some_iff.mp hdn
  obtain ⟨fs, ho, hv⟩ := Option.bind_eq_some_iff.mp hg
  obtain ⟨hm, hw⟩ := hk x h r h' hdn
  refine ⟨hm, fun p e s m args below meth c H locs ls n0 s0 R E => z_getV hf ho (v := .int x) ?_ hd E (hw p e s m args below meth c H locs ls n0 s0 R E)⟩
  unfold zvI at hv
  split at hv
  · cases hv; assumption
  · cases hv
theorem z_getL {ci j a idx : Nat} {k : Int64 → zAH → Option (ρ × zAH)} (hf : zFl own idx ci j) (hd : decode cc pc = .ok (.getfield idx, 3)) (he : pc + 3 = q) (hk : ∀ x, zSm g l cc nL own nm ret F L rv q lv (.long x :: st) (k x)) : zSm g l cc nL own nm ret F L rv pc lv (.ref a :: st) (fun h => (zgL ci j a h).bind fun x => k x h) := by
  subst he
  intro h r h' hdn
  obtain ⟨x, hg, hdn⟩ := Option.bind_eq_some_iff.mp hdn
  obtain ⟨fs, ho, hv⟩ := Option.bind_eq_some_iff.mp hg
  obtain ⟨hm, hw⟩ := hk x h r h' hdn
  refine ⟨hm, fun p e s m args below meth c H locs ls n0 s0 R E => z_getV hf ho (v := .long x) ?_ hd E (hw p e s m args below meth c H locs ls n0 s0 R E)⟩
  unfold zvL at hv
  split at hv
  · cases hv; assumption
  · cases hv
theorem z_getA {ci j a idx : Nat} {k : Nat → zAH → Option (ρ × zAH)} (hf : zFl own idx ci j) (hd : decode cc pc = .ok (.getfield idx, 3)) (he : pc + 3 = q) (hk : ∀ x, zSm g l cc nL own nm ret F L rv q lv (.ref x :: st) (k x)) : zSm g l cc nL own nm ret F L rv pc lv (.ref a :: st) (fun h => (zgA ci j a h).bind fun x => k x h) := by
  subst he
  intro h r h' hdn
  obtain ⟨x, hg, hdn⟩ := Option.bind_eq_some_iff.mp hdn
  obtain ⟨fs, ho, hv⟩ := Option.bind_eq_some_iff.mp hg
  obtain ⟨hm, hw⟩ := hk x h r h' hdn
  refine ⟨hm, fun p e s m args below meth c H locs ls n0 s0 R E => z_getV hf ho (v := .ref x) ?_ hd E (hw p e s m args below meth c H locs ls n0 s0 R E)⟩
  unfold zvA at hv
  split at hv
  · cases hv; assumption
  · cases hv
/-- a cell of the world is written -/
theorem zWd.up {h : zAH} {H H1 : Heap} {i : Nat} {c c0 : zAC} (hW : zWd g h H) (h0 : h.1 (i + 2) = some c0) (hz : H1.size = H.size) (hc : va_at (zD g) zCl (zB g + i, zcE g c) H1) (oq : ∀ q : Nat, q ≠ zB g + i → H1[q]? = H[q]?) : zWd g (zup h (i + 2) c) H1 := by
  obtain ⟨h1, h2, h3, h4⟩ := hW
  refine ⟨hz.trans h1, ?_, ?_, fun j c1 hj => ?_⟩
  · show va_up h.1 (i + 2) (some c) 0 = _
    rw [va_up, if_neg (by omega)]; exact h2
  · show va_up h.1 (i + 2) (some c) 1 = _
    rw [va_up, if_neg (by omega)]; exact h3
  · replace hj : va_up h.1 (i + 2) (some c) (j + 2) = some c1 := hj
    by_cases hij : j = i
    · subst hij
      rw [va_up, if_pos rfl] at hj
      cases hj
      exact ⟨(h4 j c0 h0).1, hc⟩
    · rw [va_up, if_neg (by omega)] at hj
      obtain ⟨q1, q2⟩ := h4 j c1 hj
      exact ⟨q1, q2.kept (oq _ (by show zB g + j ≠ zB g + i; omega))⟩
/-- a cell comes to the world -/
theorem zWd.new {h : zAH} {H H1 : Heap} {c : zAC} {w : Nat} (hW : zWd g h H) (hz : H1.size = H.size + 1) (hc : va_at (zD g) zCl (H.size, zcE g c) H1) (oq : ∀ q : Nat, q < H.size → H1[q]? = H[q]?) : zWd g (znew c w h) H1 := by
  obtain ⟨h1, h2, h3, h4⟩ := hW
  refine ⟨?_, ?_, ?_, fun j c1 hj => ?_⟩
  · show H1.size = zB g + (h.2.1 + 1)
    omega
  · show va_up h.1 (h.2.1 + 2) (some c) 0 = _
    rw [va_up, if_neg (by omega)]; exact h2
  · show va_up h.1 (h.2.1 + 2) (some c) 1 = _
    rw [va_up, if_neg (by omega)]; exact h3
  · replace hj : va_up h.1 (h.2.1 + 2) (some c) (j + 2) = some c1 := hj
    by_cases hij : j = h.2.1
    · subst hij
      rw [va_up, if_pos rfl] at hj
      cases hj
      exact ⟨Nat.lt_succ_self _, by rw [← h1]; exact hc⟩
    · rw [va_up, if_neg (by omega)] at hj
      obtain ⟨q1, q2⟩ := h4 j c1 hj
      exact ⟨Nat.lt_succ_of_lt q1, q2.kept (oq _ (by show zB g + j < H.size; omega))⟩
theorem z_putV {ci j a idx : Nat} {ty : FieldType} {fin : Bool} {v : Value} {k : zAH → Option (ρ × zAH)} (hf : zPl own idx ci j ty fin) (hfin : fin = true → nm = "<init>") (hn : narrow ty (zcv g v) = zcv g v) (hfit : fits ty (zcv g v) = true) (hd : decode cc pc = .ok (.putfield idx, 3)) (he : pc + 3 = q) (hk : zSm g l cc nL own nm ret F L rv q lv st k) : zSm g l cc nL own nm ret F L rv pc lv (v :: .ref a :: st) (fun h => (zpF ci j a v h).bind fun h1 => k h1) := by
  subst he
  intro h r h' hdn
  obtain ⟨h1, hg, hdn⟩ := Option.bind_eq_some_iff.mp hdn
  unfold zpF at hg
  split at hg
  · cases hg
  · obtain ⟨fs, ho, hv⟩ := Option.bind_eq_some_iff.mp hg
    split at hv
    · next hjl =>
      cases hv
      obtain ⟨hm, hw⟩ := hk _ r h' hdn
      refine ⟨hm, fun p e s m args below meth c H locs ls n0 s0 R E => ?_⟩
      obtain ⟨hC, hK, hS, hW, hbs, hE⟩ := E
      obtain ⟨C, T, N, ty0, f1, f2, f3, f4, f5, f6, f7, f8, f9, f10⟩ := hf
      obtain ⟨i, rfl, q1, q2⟩ := zgO_at hW ho
      have hc0 := zgO_s ho
      have go : ∀ (H1 : Heap), H1.size = H.size → va_at (zD g) zCl (zB g + i, .inr (ci, (fs.map (zcv g)).set j (zcv g v))) H1 → (∀ q : Nat, q ≠ zB g + i → H1[q]? = H[q]?) → ∀ sl : Nat, W p l e R s m args below meth c H1 (locs ++ [⟨zB g + i, sl⟩]) (h.2.1 - n0) (h.2.2 - s0) (MQ below (zQ g rv r h') args s (h'.2.1 - n0) (h'.2.2 - s0) (zfr g)) (F0 m (pc + 3) ls (st.map (zcv g))) := by
        intro H1 z1 c1 o1 sl
        exact hw p e s m args below meth c H1 _ ls n0 s0 R ⟨hC, hK, hS.put z1 o1 (Nat.le_add_right _ _), zWd.up hW hc0 z1 (by show va_at _ _ (_, .inr (ci, (fs.set j v).map (zcv g))) H1; rw [List.map_set]; exact c1) o1, hbs, hE⟩
      obtain ⟨hx, hb, -, hown, ht, -, -, hnm⟩ := hC
      have hap := va_apart (own := own) ht f2 ty0 f6 f7 hK.1 f1
      obtain ⟨r0, g1, cell, c1, c2, c3, c4⟩ := q2
      have hr : r0 = (C, T, N) := Option.some.inj (g1.symm.trans f1)
      subst hr
      obtain ⟨hSl, hfc, kC, hkC, hkind⟩ := hK.1.1 ci _ f1
      obtain ⟨cf, kf, fi, fd, hi, hsl⟩ := hSl j f3
      have hst := (u_facts hfc hkC (u_lays ht f2 f3) hi).1
      have hlay := ht _ (f2 _ (u_in_lay f3))
      have fin2 : ∀ H' : Heap, H'[zB g + i]? = some (cell.setSlot fd.slot (zcv g v)) → va_at (zD g) zCl (zB g + i, .inr (ci, (fs.map (zcv g)).set j (zcv g v))) H' := by
        intro H' e1
        rw [hsl] at e1
        exact ⟨_, f1, t_OB.to (V := updV (vp_V (fs.map (zcv g))) j (zcv g v)) ⟨_, e1, c2, c3, t_set c4 hap f3 (zcv g v)⟩ (fun k _ => vp_updV_set (by rw [List.length_map]; exact hjl) (zcv g v) k)⟩
      unfold u_lay at hlay
      cases fin with
      | false =>
        rw [if_neg (by rw [f8]; decide)] at hlay
        have h6 := u_store hfc hkC hkind hlay hi f9 hn hfit
        exact W.putK hx hb (f := fd) ⟨hown, ht _ f4, ⟨_, _, _, by rw [f5] at hi; exact hi⟩, hst⟩ (by rw [c2]; exact h6) c1 c3 (by rw [hsl]; exact k2_hasslot (c4 j f3)) rfl rfl hd fun H' e1 e2 e3 => go H' e2 (fin2 H' e1) e3 _
      | true =>
        rw [if_pos f8] at hlay
        have hcf : m.cls = cf := by
          obtain ⟨_, _, c', _, _, _, -, -, hf', -, -, -, hown2, -⟩ := Cond.laysFinal_spec hlay
          have e1 : c' = cf := by have := hi.symm.trans hf'; simp at this; exact this.1.symm
          rw [f5, f10 rfl] at hown2
          rw [← e1]; exact Option.some.inj (hown.symm.trans hown2)
        have h6 := u_fits hfc hkC hkind (Or.inr hlay) hi f9 hn hfit
        exact W.putFinK hx hb hown (ht _ f4) (by rw [f5] at hi; exact hi) hst hcf (hnm.trans (hfin rfl)) (by rw [c2]; exact h6) c1 c3 (by rw [hsl]; exact k2_hasslot (c4 j f3)) rfl rfl hd fun H' e1 e2 e3 => go H' e2 (fin2 H' e1) e3 _
    · cases hv
end zR2
end
