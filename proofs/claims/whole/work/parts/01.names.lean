-- ===== PART A: goes FIRST, ahead of the names: the tables' words, and 'selects' of the private methods out of them =====
/-- a private method of a class that the tables say can be made, by its rows of tables_1 -/
def lw_okq (q : MethodName × Nat) : Prop := (q.1.cls ≠ "java/lang/invoke/MethodHandle" ∧ q.1.cls ≠ "java/lang/invoke/VarHandle") ∧ Cond.instantiable q.1.cls q.2 ∈ tables_1 ∧ Cond.privateMethod q.1 ∈ tables_1 ∧ Cond.instanceMethod q.1 ∈ tables_1
theorem lw_p0 : lw_okq (⟨"RingCircuits", "inSlot", "(I)LRingCircuits$Circuit;"⟩, 14) := ⟨⟨by decide +kernel, by decide +kernel⟩, List.mem_of_getElem? (i := 23) (by decide +kernel), List.mem_of_getElem? (i := 161) (by decide +kernel), List.mem_of_getElem? (i := 162) (by decide +kernel)⟩
theorem lw_p1 : lw_okq (⟨"RingCircuits$Text", "put", "(C)V"⟩, 3) := ⟨⟨by decide +kernel, by decide +kernel⟩, List.mem_of_getElem? (i := 97) (by decide +kernel), List.mem_of_getElem? (i := 201) (by decide +kernel), List.mem_of_getElem? (i := 202) (by decide +kernel)⟩
theorem lw_p2 : lw_okq (⟨"java/lang/Throwable", "fillInStackTrace", "(I)Ljava/lang/Throwable;"⟩, 6) := ⟨⟨by decide +kernel, by decide +kernel⟩, List.mem_of_getElem? (i := 267) (by decide +kernel), List.mem_of_getElem? (i := 265) (by decide +kernel), List.mem_of_getElem? (i := 266) (by decide +kernel)⟩
theorem lw_p3 : lw_okq (⟨"RingCircuits$Circuit", "addBackTurn", "(I)V"⟩, 2) := ⟨⟨by decide +kernel, by decide +kernel⟩, List.mem_of_getElem? (i := 31) (by decide +kernel), List.mem_of_getElem? (i := 390) (by decide +kernel), List.mem_of_getElem? (i := 391) (by decide +kernel)⟩
theorem lw_p4 : lw_okq (⟨"RingCircuits$Circuit", "addOn", "(II)V"⟩, 2) := ⟨⟨by decide +kernel, by decide +kernel⟩, List.mem_of_getElem? (i := 31) (by decide +kernel), List.mem_of_getElem? (i := 394) (by decide +kernel), List.mem_of_getElem? (i := 395) (by decide +kernel)⟩
theorem lw_p5 : lw_okq (⟨"RingCircuits$Circuit", "addParts", "(III)V"⟩, 2) := ⟨⟨by decide +kernel, by decide +kernel⟩, List.mem_of_getElem? (i := 31) (by decide +kernel), List.mem_of_getElem? (i := 426) (by decide +kernel), List.mem_of_getElem? (i := 427) (by decide +kernel)⟩
theorem lw_p6 : lw_okq (⟨"RingCircuits$Circuit", "addControlled", "(II)V"⟩, 2) := ⟨⟨by decide +kernel, by decide +kernel⟩, List.mem_of_getElem? (i := 31) (by decide +kernel), List.mem_of_getElem? (i := 430) (by decide +kernel), List.mem_of_getElem? (i := 431) (by decide +kernel)⟩
theorem lw_p7 : lw_okq (⟨"RingCircuits$Circuit", "rewriteOne", "()Z"⟩, 2) := ⟨⟨by decide +kernel, by decide +kernel⟩, List.mem_of_getElem? (i := 31) (by decide +kernel), List.mem_of_getElem? (i := 445) (by decide +kernel), List.mem_of_getElem? (i := 446) (by decide +kernel)⟩
theorem lw_p8 : lw_okq (⟨"RingCircuits$Circuit", "partnerOf", "(I)I"⟩, 2) := ⟨⟨by decide +kernel, by decide +kernel⟩, List.mem_of_getElem? (i := 31) (by decide +kernel), List.mem_of_getElem? (i := 449) (by decide +kernel), List.mem_of_getElem? (i := 450) (by decide +kernel)⟩
theorem lw_p9 : lw_okq (⟨"RingCircuits$Circuit", "unite", "(II)V"⟩, 2) := ⟨⟨by decide +kernel, by decide +kernel⟩, List.mem_of_getElem? (i := 31) (by decide +kernel), List.mem_of_getElem? (i := 481) (by decide +kernel), List.mem_of_getElem? (i := 482) (by decide +kernel)⟩
theorem lw_p10 : lw_okq (⟨"RingCircuits$Circuit", "removeAt", "(I)V"⟩, 2) := ⟨⟨by decide +kernel, by decide +kernel⟩, List.mem_of_getElem? (i := 31) (by decide +kernel), List.mem_of_getElem? (i := 489) (by decide +kernel), List.mem_of_getElem? (i := 490) (by decide +kernel)⟩
theorem lw_p11 : lw_okq (⟨"RingCircuits$LeastForm", "takeT", "()V"⟩, 4) := ⟨⟨by decide +kernel, by decide +kernel⟩, List.mem_of_getElem? (i := 78) (by decide +kernel), List.mem_of_getElem? (i := 512) (by decide +kernel), List.mem_of_getElem? (i := 513) (by decide +kernel)⟩
theorem lw_p12 : lw_okq (⟨"RingCircuits", "firstTurn", "(LRingCircuits$Circuit;LRingCircuits$Circuit;)I"⟩, 14) := ⟨⟨by decide +kernel, by decide +kernel⟩, List.mem_of_getElem? (i := 23) (by decide +kernel), List.mem_of_getElem? (i := 555) (by decide +kernel), List.mem_of_getElem? (i := 556) (by decide +kernel)⟩
theorem lw_p13 : lw_okq (⟨"RingCircuits", "runBoth", "(LRingCircuits$Circuit;LRingCircuits$Circuit;I)V"⟩, 14) := ⟨⟨by decide +kernel, by decide +kernel⟩, List.mem_of_getElem? (i := 23) (by decide +kernel), List.mem_of_getElem? (i := 559) (by decide +kernel), List.mem_of_getElem? (i := 560) (by decide +kernel)⟩
theorem lw_p14 : lw_okq (⟨"RingCircuits$Column", "raise", "()V"⟩, 3) := ⟨⟨by decide +kernel, by decide +kernel⟩, List.mem_of_getElem? (i := 45) (by decide +kernel), List.mem_of_getElem? (i := 575) (by decide +kernel), List.mem_of_getElem? (i := 576) (by decide +kernel)⟩
theorem lw_p15 : lw_okq (⟨"RingCircuits$Column", "timesRoot", "(I)V"⟩, 3) := ⟨⟨by decide +kernel, by decide +kernel⟩, List.mem_of_getElem? (i := 45) (by decide +kernel), List.mem_of_getElem? (i := 579) (by decide +kernel), List.mem_of_getElem? (i := 580) (by decide +kernel)⟩
def lw_privs_1 : List (MethodName × Nat) := [(⟨"RingCircuits", "inSlot", "(I)LRingCircuits$Circuit;"⟩, 14), (⟨"RingCircuits$Text", "put", "(C)V"⟩, 3), (⟨"java/lang/Throwable", "fillInStackTrace", "(I)Ljava/lang/Throwable;"⟩, 6), (⟨"RingCircuits$Circuit", "addBackTurn", "(I)V"⟩, 2), (⟨"RingCircuits$Circuit", "addOn", "(II)V"⟩, 2), (⟨"RingCircuits$Circuit", "addParts", "(III)V"⟩, 2), (⟨"RingCircuits$Circuit", "addControlled", "(II)V"⟩, 2), (⟨"RingCircuits$Circuit", "rewriteOne", "()Z"⟩, 2), (⟨"RingCircuits$Circuit", "partnerOf", "(I)I"⟩, 2), (⟨"RingCircuits$Circuit", "unite", "(II)V"⟩, 2), (⟨"RingCircuits$Circuit", "removeAt", "(I)V"⟩, 2), (⟨"RingCircuits$LeastForm", "takeT", "()V"⟩, 4), (⟨"RingCircuits", "firstTurn", "(LRingCircuits$Circuit;LRingCircuits$Circuit;)I"⟩, 14), (⟨"RingCircuits", "runBoth", "(LRingCircuits$Circuit;LRingCircuits$Circuit;I)V"⟩, 14), (⟨"RingCircuits$Column", "raise", "()V"⟩, 3), (⟨"RingCircuits$Column", "timesRoot", "(I)V"⟩, 3)]
theorem lw_r1 : ∀ q ∈ lw_privs_1, lw_okq q := List.forall_mem_cons.mpr ⟨lw_p0, List.forall_mem_cons.mpr ⟨lw_p1, List.forall_mem_cons.mpr ⟨lw_p2, List.forall_mem_cons.mpr ⟨lw_p3, List.forall_mem_cons.mpr ⟨lw_p4, List.forall_mem_cons.mpr ⟨lw_p5, List.forall_mem_cons.mpr ⟨lw_p6, List.forall_mem_cons.mpr ⟨lw_p7, List.forall_mem_cons.mpr ⟨lw_p8, List.forall_mem_cons.mpr ⟨lw_p9, List.forall_mem_cons.mpr ⟨lw_p10, List.forall_mem_cons.mpr ⟨lw_p11, List.forall_mem_cons.mpr ⟨lw_p12, List.forall_mem_cons.mpr ⟨lw_p13, List.forall_mem_cons.mpr ⟨lw_p14, List.forall_mem_cons.mpr ⟨lw_p15, fun _ h => absurd h List.not_mem_nil⟩⟩⟩⟩⟩⟩⟩⟩⟩⟩⟩⟩⟩⟩⟩⟩
theorem lw_p16 : lw_okq (⟨"RingCircuits$Column", "apply", "(I)V"⟩, 3) := ⟨⟨by decide +kernel, by decide +kernel⟩, List.mem_of_getElem? (i := 45) (by decide +kernel), List.mem_of_getElem? (i := 585) (by decide +kernel), List.mem_of_getElem? (i := 586) (by decide +kernel)⟩
theorem lw_p17 : lw_okq (⟨"RingCircuits$Column", "mix", "(I)V"⟩, 3) := ⟨⟨by decide +kernel, by decide +kernel⟩, List.mem_of_getElem? (i := 45) (by decide +kernel), List.mem_of_getElem? (i := 591) (by decide +kernel), List.mem_of_getElem? (i := 592) (by decide +kernel)⟩
theorem lw_p18 : lw_okq (⟨"RingCircuits$Column", "mixPair", "(II)V"⟩, 3) := ⟨⟨by decide +kernel, by decide +kernel⟩, List.mem_of_getElem? (i := 45) (by decide +kernel), List.mem_of_getElem? (i := 595) (by decide +kernel), List.mem_of_getElem? (i := 596) (by decide +kernel)⟩
theorem lw_p19 : lw_okq (⟨"RingCircuits$Column", "trade", "(II)V"⟩, 3) := ⟨⟨by decide +kernel, by decide +kernel⟩, List.mem_of_getElem? (i := 45) (by decide +kernel), List.mem_of_getElem? (i := 600) (by decide +kernel), List.mem_of_getElem? (i := 601) (by decide +kernel)⟩
theorem lw_p20 : lw_okq (⟨"RingCircuits$Column", "exchange", "(II)V"⟩, 3) := ⟨⟨by decide +kernel, by decide +kernel⟩, List.mem_of_getElem? (i := 45) (by decide +kernel), List.mem_of_getElem? (i := 604) (by decide +kernel), List.mem_of_getElem? (i := 605) (by decide +kernel)⟩
theorem lw_p21 : lw_okq (⟨"RingCircuits$Column", "flip", "(II)V"⟩, 3) := ⟨⟨by decide +kernel, by decide +kernel⟩, List.mem_of_getElem? (i := 45) (by decide +kernel), List.mem_of_getElem? (i := 613) (by decide +kernel), List.mem_of_getElem? (i := 614) (by decide +kernel)⟩
theorem lw_p22 : lw_okq (⟨"RingCircuits$Column", "turn", "(II)V"⟩, 3) := ⟨⟨by decide +kernel, by decide +kernel⟩, List.mem_of_getElem? (i := 45) (by decide +kernel), List.mem_of_getElem? (i := 619) (by decide +kernel), List.mem_of_getElem? (i := 620) (by decide +kernel)⟩
theorem lw_p23 : lw_okq (⟨"RingCircuits$Column", "turnOne", "(II)V"⟩, 3) := ⟨⟨by decide +kernel, by decide +kernel⟩, List.mem_of_getElem? (i := 45) (by decide +kernel), List.mem_of_getElem? (i := 623) (by decide +kernel), List.mem_of_getElem? (i := 624) (by decide +kernel)⟩
theorem lw_p24 : lw_okq (⟨"RingCircuits", "isTurned", "(LRingCircuits$Circuit;LRingCircuits$Circuit;I)Z"⟩, 14) := ⟨⟨by decide +kernel, by decide +kernel⟩, List.mem_of_getElem? (i := 23) (by decide +kernel), List.mem_of_getElem? (i := 646) (by decide +kernel), List.mem_of_getElem? (i := 647) (by decide +kernel)⟩
theorem lw_p25 : lw_okq (⟨"RingCircuits", "basisStates", "()I"⟩, 14) := ⟨⟨by decide +kernel, by decide +kernel⟩, List.mem_of_getElem? (i := 23) (by decide +kernel), List.mem_of_getElem? (i := 650) (by decide +kernel), List.mem_of_getElem? (i := 651) (by decide +kernel)⟩
theorem lw_p26 : lw_okq (⟨"RingCircuits$Column", "canBeDivided", "()Z"⟩, 3) := ⟨⟨by decide +kernel, by decide +kernel⟩, List.mem_of_getElem? (i := 45) (by decide +kernel), List.mem_of_getElem? (i := 676) (by decide +kernel), List.mem_of_getElem? (i := 677) (by decide +kernel)⟩
theorem lw_p27 : lw_okq (⟨"RingCircuits$Column", "divide", "()V"⟩, 3) := ⟨⟨by decide +kernel, by decide +kernel⟩, List.mem_of_getElem? (i := 45) (by decide +kernel), List.mem_of_getElem? (i := 680) (by decide +kernel), List.mem_of_getElem? (i := 681) (by decide +kernel)⟩
theorem lw_p28 : lw_okq (⟨"RingCircuits", "isWire", "(I)Z"⟩, 14) := ⟨⟨by decide +kernel, by decide +kernel⟩, List.mem_of_getElem? (i := 23) (by decide +kernel), List.mem_of_getElem? (i := 717) (by decide +kernel), List.mem_of_getElem? (i := 718) (by decide +kernel)⟩
theorem lw_p29 : lw_okq (⟨"RingCircuits$Signs", "passH", "(I)V"⟩, 3) := ⟨⟨by decide +kernel, by decide +kernel⟩, List.mem_of_getElem? (i := 62) (by decide +kernel), List.mem_of_getElem? (i := 766) (by decide +kernel), List.mem_of_getElem? (i := 767) (by decide +kernel)⟩
theorem lw_p30 : lw_okq (⟨"RingCircuits$Signs", "passCX", "(II)V"⟩, 3) := ⟨⟨by decide +kernel, by decide +kernel⟩, List.mem_of_getElem? (i := 62) (by decide +kernel), List.mem_of_getElem? (i := 773) (by decide +kernel), List.mem_of_getElem? (i := 774) (by decide +kernel)⟩
theorem lw_p31 : lw_okq (⟨"RingCircuits$Text", "writeGate", "(I)V"⟩, 3) := ⟨⟨by decide +kernel, by decide +kernel⟩, List.mem_of_getElem? (i := 97) (by decide +kernel), List.mem_of_getElem? (i := 798) (by decide +kernel), List.mem_of_getElem? (i := 799) (by decide +kernel)⟩
def lw_privs_2 : List (MethodName × Nat) := [(⟨"RingCircuits$Column", "apply", "(I)V"⟩, 3), (⟨"RingCircuits$Column", "mix", "(I)V"⟩, 3), (⟨"RingCircuits$Column", "mixPair", "(II)V"⟩, 3), (⟨"RingCircuits$Column", "trade", "(II)V"⟩, 3), (⟨"RingCircuits$Column", "exchange", "(II)V"⟩, 3), (⟨"RingCircuits$Column", "flip", "(II)V"⟩, 3), (⟨"RingCircuits$Column", "turn", "(II)V"⟩, 3), (⟨"RingCircuits$Column", "turnOne", "(II)V"⟩, 3), (⟨"RingCircuits", "isTurned", "(LRingCircuits$Circuit;LRingCircuits$Circuit;I)Z"⟩, 14), (⟨"RingCircuits", "basisStates", "()I"⟩, 14), (⟨"RingCircuits$Column", "canBeDivided", "()Z"⟩, 3), (⟨"RingCircuits$Column", "divide", "()V"⟩, 3), (⟨"RingCircuits", "isWire", "(I)Z"⟩, 14), (⟨"RingCircuits$Signs", "passH", "(I)V"⟩, 3), (⟨"RingCircuits$Signs", "passCX", "(II)V"⟩, 3), (⟨"RingCircuits$Text", "writeGate", "(I)V"⟩, 3)]
theorem lw_r2 : ∀ q ∈ lw_privs_2, lw_okq q := List.forall_mem_cons.mpr ⟨lw_p16, List.forall_mem_cons.mpr ⟨lw_p17, List.forall_mem_cons.mpr ⟨lw_p18, List.forall_mem_cons.mpr ⟨lw_p19, List.forall_mem_cons.mpr ⟨lw_p20, List.forall_mem_cons.mpr ⟨lw_p21, List.forall_mem_cons.mpr ⟨lw_p22, List.forall_mem_cons.mpr ⟨lw_p23, List.forall_mem_cons.mpr ⟨lw_p24, List.forall_mem_cons.mpr ⟨lw_p25, List.forall_mem_cons.mpr ⟨lw_p26, List.forall_mem_cons.mpr ⟨lw_p27, List.forall_mem_cons.mpr ⟨lw_p28, List.forall_mem_cons.mpr ⟨lw_p29, List.forall_mem_cons.mpr ⟨lw_p30, List.forall_mem_cons.mpr ⟨lw_p31, fun _ h => absurd h List.not_mem_nil⟩⟩⟩⟩⟩⟩⟩⟩⟩⟩⟩⟩⟩⟩⟩⟩
theorem lw_p32 : lw_okq (⟨"RingCircuits$Text", "parseGate", "(I)I"⟩, 3) := ⟨⟨by decide +kernel, by decide +kernel⟩, List.mem_of_getElem? (i := 97) (by decide +kernel), List.mem_of_getElem? (i := 865) (by decide +kernel), List.mem_of_getElem? (i := 866) (by decide +kernel)⟩
theorem lw_p33 : lw_okq (⟨"RingCircuitsModel", "isGate", "(IIII)Z"⟩, 31) := ⟨⟨by decide +kernel, by decide +kernel⟩, List.mem_of_getElem? (i := 929) (by decide +kernel), List.mem_of_getElem? (i := 1049) (by decide +kernel), List.mem_of_getElem? (i := 1050) (by decide +kernel)⟩
theorem lw_p34 : lw_okq (⟨"RingCircuitsModel", "isWire", "(I)Z"⟩, 31) := ⟨⟨by decide +kernel, by decide +kernel⟩, List.mem_of_getElem? (i := 929) (by decide +kernel), List.mem_of_getElem? (i := 1054) (by decide +kernel), List.mem_of_getElem? (i := 1055) (by decide +kernel)⟩
theorem lw_p35 : lw_okq (⟨"RingCircuitsModel", "put", "(IIIII)V"⟩, 31) := ⟨⟨by decide +kernel, by decide +kernel⟩, List.mem_of_getElem? (i := 929) (by decide +kernel), List.mem_of_getElem? (i := 1061) (by decide +kernel), List.mem_of_getElem? (i := 1062) (by decide +kernel)⟩
theorem lw_p36 : lw_okq (⟨"RingCircuitsModel", "copyGate", "(II)V"⟩, 31) := ⟨⟨by decide +kernel, by decide +kernel⟩, List.mem_of_getElem? (i := 929) (by decide +kernel), List.mem_of_getElem? (i := 1081) (by decide +kernel), List.mem_of_getElem? (i := 1082) (by decide +kernel)⟩
theorem lw_p37 : lw_okq (⟨"RingCircuitsModel", "copy", "(II)V"⟩, 31) := ⟨⟨by decide +kernel, by decide +kernel⟩, List.mem_of_getElem? (i := 929) (by decide +kernel), List.mem_of_getElem? (i := 1089) (by decide +kernel), List.mem_of_getElem? (i := 1090) (by decide +kernel)⟩
theorem lw_p38 : lw_okq (⟨"RingCircuitsModel", "expandOne", "(III)V"⟩, 31) := ⟨⟨by decide +kernel, by decide +kernel⟩, List.mem_of_getElem? (i := 929) (by decide +kernel), List.mem_of_getElem? (i := 1097) (by decide +kernel), List.mem_of_getElem? (i := 1098) (by decide +kernel)⟩
theorem lw_p39 : lw_okq (⟨"RingCircuitsModel", "putBack", "(I)V"⟩, 31) := ⟨⟨by decide +kernel, by decide +kernel⟩, List.mem_of_getElem? (i := 929) (by decide +kernel), List.mem_of_getElem? (i := 1101) (by decide +kernel), List.mem_of_getElem? (i := 1102) (by decide +kernel)⟩
theorem lw_p40 : lw_okq (⟨"RingCircuitsModel", "meetOnce", "(I)Z"⟩, 31) := ⟨⟨by decide +kernel, by decide +kernel⟩, List.mem_of_getElem? (i := 929) (by decide +kernel), List.mem_of_getElem? (i := 1109) (by decide +kernel), List.mem_of_getElem? (i := 1110) (by decide +kernel)⟩
theorem lw_p41 : lw_okq (⟨"RingCircuitsModel", "together", "(II)I"⟩, 31) := ⟨⟨by decide +kernel, by decide +kernel⟩, List.mem_of_getElem? (i := 929) (by decide +kernel), List.mem_of_getElem? (i := 1113) (by decide +kernel), List.mem_of_getElem? (i := 1114) (by decide +kernel)⟩
theorem lw_p42 : lw_okq (⟨"RingCircuitsModel", "turnsOf", "(I)I"⟩, 31) := ⟨⟨by decide +kernel, by decide +kernel⟩, List.mem_of_getElem? (i := 929) (by decide +kernel), List.mem_of_getElem? (i := 1117) (by decide +kernel), List.mem_of_getElem? (i := 1118) (by decide +kernel)⟩
theorem lw_p43 : lw_okq (⟨"RingCircuitsModel", "cancels", "(II)Z"⟩, 31) := ⟨⟨by decide +kernel, by decide +kernel⟩, List.mem_of_getElem? (i := 929) (by decide +kernel), List.mem_of_getElem? (i := 1121) (by decide +kernel), List.mem_of_getElem? (i := 1122) (by decide +kernel)⟩
theorem lw_p44 : lw_okq (⟨"RingCircuitsModel", "samePair", "(II)Z"⟩, 31) := ⟨⟨by decide +kernel, by decide +kernel⟩, List.mem_of_getElem? (i := 929) (by decide +kernel), List.mem_of_getElem? (i := 1125) (by decide +kernel), List.mem_of_getElem? (i := 1126) (by decide +kernel)⟩
theorem lw_p45 : lw_okq (⟨"RingCircuitsModel", "remove", "(II)V"⟩, 31) := ⟨⟨by decide +kernel, by decide +kernel⟩, List.mem_of_getElem? (i := 929) (by decide +kernel), List.mem_of_getElem? (i := 1129) (by decide +kernel), List.mem_of_getElem? (i := 1130) (by decide +kernel)⟩
theorem lw_p46 : lw_okq (⟨"RingCircuitsModel", "passes", "(II)Z"⟩, 31) := ⟨⟨by decide +kernel, by decide +kernel⟩, List.mem_of_getElem? (i := 929) (by decide +kernel), List.mem_of_getElem? (i := 1133) (by decide +kernel), List.mem_of_getElem? (i := 1134) (by decide +kernel)⟩
theorem lw_p47 : lw_okq (⟨"RingCircuitsModel", "shares", "(II)Z"⟩, 31) := ⟨⟨by decide +kernel, by decide +kernel⟩, List.mem_of_getElem? (i := 929) (by decide +kernel), List.mem_of_getElem? (i := 1137) (by decide +kernel), List.mem_of_getElem? (i := 1138) (by decide +kernel)⟩
def lw_privs_3 : List (MethodName × Nat) := [(⟨"RingCircuits$Text", "parseGate", "(I)I"⟩, 3), (⟨"RingCircuitsModel", "isGate", "(IIII)Z"⟩, 31), (⟨"RingCircuitsModel", "isWire", "(I)Z"⟩, 31), (⟨"RingCircuitsModel", "put", "(IIIII)V"⟩, 31), (⟨"RingCircuitsModel", "copyGate", "(II)V"⟩, 31), (⟨"RingCircuitsModel", "copy", "(II)V"⟩, 31), (⟨"RingCircuitsModel", "expandOne", "(III)V"⟩, 31), (⟨"RingCircuitsModel", "putBack", "(I)V"⟩, 31), (⟨"RingCircuitsModel", "meetOnce", "(I)Z"⟩, 31), (⟨"RingCircuitsModel", "together", "(II)I"⟩, 31), (⟨"RingCircuitsModel", "turnsOf", "(I)I"⟩, 31), (⟨"RingCircuitsModel", "cancels", "(II)Z"⟩, 31), (⟨"RingCircuitsModel", "samePair", "(II)Z"⟩, 31), (⟨"RingCircuitsModel", "remove", "(II)V"⟩, 31), (⟨"RingCircuitsModel", "passes", "(II)Z"⟩, 31), (⟨"RingCircuitsModel", "shares", "(II)Z"⟩, 31)]
theorem lw_r3 : ∀ q ∈ lw_privs_3, lw_okq q := List.forall_mem_cons.mpr ⟨lw_p32, List.forall_mem_cons.mpr ⟨lw_p33, List.forall_mem_cons.mpr ⟨lw_p34, List.forall_mem_cons.mpr ⟨lw_p35, List.forall_mem_cons.mpr ⟨lw_p36, List.forall_mem_cons.mpr ⟨lw_p37, List.forall_mem_cons.mpr ⟨lw_p38, List.forall_mem_cons.mpr ⟨lw_p39, List.forall_mem_cons.mpr ⟨lw_p40, List.forall_mem_cons.mpr ⟨lw_p41, List.forall_mem_cons.mpr ⟨lw_p42, List.forall_mem_cons.mpr ⟨lw_p43, List.forall_mem_cons.mpr ⟨lw_p44, List.forall_mem_cons.mpr ⟨lw_p45, List.forall_mem_cons.mpr ⟨lw_p46, List.forall_mem_cons.mpr ⟨lw_p47, fun _ h => absurd h List.not_mem_nil⟩⟩⟩⟩⟩⟩⟩⟩⟩⟩⟩⟩⟩⟩⟩⟩
theorem lw_p48 : lw_okq (⟨"RingCircuitsModel", "has", "(II)Z"⟩, 31) := ⟨⟨by decide +kernel, by decide +kernel⟩, List.mem_of_getElem? (i := 929) (by decide +kernel), List.mem_of_getElem? (i := 1141) (by decide +kernel), List.mem_of_getElem? (i := 1142) (by decide +kernel)⟩
theorem lw_p49 : lw_okq (⟨"RingCircuitsModel", "isStraight", "(I)Z"⟩, 31) := ⟨⟨by decide +kernel, by decide +kernel⟩, List.mem_of_getElem? (i := 929) (by decide +kernel), List.mem_of_getElem? (i := 1145) (by decide +kernel), List.mem_of_getElem? (i := 1146) (by decide +kernel)⟩
theorem lw_p50 : lw_okq (⟨"RingCircuitsModel", "goesBy", "(II)Z"⟩, 31) := ⟨⟨by decide +kernel, by decide +kernel⟩, List.mem_of_getElem? (i := 929) (by decide +kernel), List.mem_of_getElem? (i := 1149) (by decide +kernel), List.mem_of_getElem? (i := 1150) (by decide +kernel)⟩
theorem lw_p51 : lw_okq (⟨"RingCircuitsModel", "isTurned", "(III)Z"⟩, 31) := ⟨⟨by decide +kernel, by decide +kernel⟩, List.mem_of_getElem? (i := 929) (by decide +kernel), List.mem_of_getElem? (i := 1157) (by decide +kernel), List.mem_of_getElem? (i := 1158) (by decide +kernel)⟩
theorem lw_p52 : lw_okq (⟨"RingCircuitsModel", "basis", "()I"⟩, 31) := ⟨⟨by decide +kernel, by decide +kernel⟩, List.mem_of_getElem? (i := 929) (by decide +kernel), List.mem_of_getElem? (i := 1161) (by decide +kernel), List.mem_of_getElem? (i := 1162) (by decide +kernel)⟩
theorem lw_p53 : lw_okq (⟨"RingCircuitsModel", "both", "(III)V"⟩, 31) := ⟨⟨by decide +kernel, by decide +kernel⟩, List.mem_of_getElem? (i := 929) (by decide +kernel), List.mem_of_getElem? (i := 1165) (by decide +kernel), List.mem_of_getElem? (i := 1166) (by decide +kernel)⟩
theorem lw_p54 : lw_okq (⟨"RingCircuitsModel", "column", "(II[J)I"⟩, 31) := ⟨⟨by decide +kernel, by decide +kernel⟩, List.mem_of_getElem? (i := 929) (by decide +kernel), List.mem_of_getElem? (i := 1169) (by decide +kernel), List.mem_of_getElem? (i := 1170) (by decide +kernel)⟩
theorem lw_p55 : lw_okq (⟨"RingCircuitsModel", "act", "([JI)V"⟩, 31) := ⟨⟨by decide +kernel, by decide +kernel⟩, List.mem_of_getElem? (i := 929) (by decide +kernel), List.mem_of_getElem? (i := 1173) (by decide +kernel), List.mem_of_getElem? (i := 1174) (by decide +kernel)⟩
theorem lw_p56 : lw_okq (⟨"RingCircuitsModel", "takeGate", "(I)V"⟩, 31) := ⟨⟨by decide +kernel, by decide +kernel⟩, List.mem_of_getElem? (i := 929) (by decide +kernel), List.mem_of_getElem? (i := 1204) (by decide +kernel), List.mem_of_getElem? (i := 1205) (by decide +kernel)⟩
theorem lw_p57 : lw_okq (⟨"RingCircuitsModel", "setLeft", "(I)V"⟩, 31) := ⟨⟨by decide +kernel, by decide +kernel⟩, List.mem_of_getElem? (i := 929) (by decide +kernel), List.mem_of_getElem? (i := 1208) (by decide +kernel), List.mem_of_getElem? (i := 1209) (by decide +kernel)⟩
theorem lw_p58 : lw_okq (⟨"RingCircuitsModel", "carry", "(I)V"⟩, 31) := ⟨⟨by decide +kernel, by decide +kernel⟩, List.mem_of_getElem? (i := 929) (by decide +kernel), List.mem_of_getElem? (i := 1212) (by decide +kernel), List.mem_of_getElem? (i := 1213) (by decide +kernel)⟩
theorem lw_p59 : lw_okq (⟨"RingCircuitsModel", "timesRight", "(I)V"⟩, 31) := ⟨⟨by decide +kernel, by decide +kernel⟩, List.mem_of_getElem? (i := 929) (by decide +kernel), List.mem_of_getElem? (i := 1216) (by decide +kernel), List.mem_of_getElem? (i := 1217) (by decide +kernel)⟩
theorem lw_p60 : lw_okq (⟨"RingCircuitsModel", "joinLeft", "()V"⟩, 31) := ⟨⟨by decide +kernel, by decide +kernel⟩, List.mem_of_getElem? (i := 929) (by decide +kernel), List.mem_of_getElem? (i := 1220) (by decide +kernel), List.mem_of_getElem? (i := 1221) (by decide +kernel)⟩
theorem lw_p61 : lw_okq (⟨"RingCircuitsModel", "image", "(I)I"⟩, 31) := ⟨⟨by decide +kernel, by decide +kernel⟩, List.mem_of_getElem? (i := 929) (by decide +kernel), List.mem_of_getElem? (i := 1224) (by decide +kernel), List.mem_of_getElem? (i := 1225) (by decide +kernel)⟩
theorem lw_p62 : lw_okq (⟨"RingCircuitsModel", "joinBackS", "()V"⟩, 31) := ⟨⟨by decide +kernel, by decide +kernel⟩, List.mem_of_getElem? (i := 929) (by decide +kernel), List.mem_of_getElem? (i := 1234) (by decide +kernel), List.mem_of_getElem? (i := 1235) (by decide +kernel)⟩
theorem lw_p63 : lw_okq (⟨"RingCircuitsModel", "dropRound", "()V"⟩, 31) := ⟨⟨by decide +kernel, by decide +kernel⟩, List.mem_of_getElem? (i := 929) (by decide +kernel), List.mem_of_getElem? (i := 1238) (by decide +kernel), List.mem_of_getElem? (i := 1239) (by decide +kernel)⟩
def lw_privs_4 : List (MethodName × Nat) := [(⟨"RingCircuitsModel", "has", "(II)Z"⟩, 31), (⟨"RingCircuitsModel", "isStraight", "(I)Z"⟩, 31), (⟨"RingCircuitsModel", "goesBy", "(II)Z"⟩, 31), (⟨"RingCircuitsModel", "isTurned", "(III)Z"⟩, 31), (⟨"RingCircuitsModel", "basis", "()I"⟩, 31), (⟨"RingCircuitsModel", "both", "(III)V"⟩, 31), (⟨"RingCircuitsModel", "column", "(II[J)I"⟩, 31), (⟨"RingCircuitsModel", "act", "([JI)V"⟩, 31), (⟨"RingCircuitsModel", "takeGate", "(I)V"⟩, 31), (⟨"RingCircuitsModel", "setLeft", "(I)V"⟩, 31), (⟨"RingCircuitsModel", "carry", "(I)V"⟩, 31), (⟨"RingCircuitsModel", "timesRight", "(I)V"⟩, 31), (⟨"RingCircuitsModel", "joinLeft", "()V"⟩, 31), (⟨"RingCircuitsModel", "image", "(I)I"⟩, 31), (⟨"RingCircuitsModel", "joinBackS", "()V"⟩, 31), (⟨"RingCircuitsModel", "dropRound", "()V"⟩, 31)]
theorem lw_r4 : ∀ q ∈ lw_privs_4, lw_okq q := List.forall_mem_cons.mpr ⟨lw_p48, List.forall_mem_cons.mpr ⟨lw_p49, List.forall_mem_cons.mpr ⟨lw_p50, List.forall_mem_cons.mpr ⟨lw_p51, List.forall_mem_cons.mpr ⟨lw_p52, List.forall_mem_cons.mpr ⟨lw_p53, List.forall_mem_cons.mpr ⟨lw_p54, List.forall_mem_cons.mpr ⟨lw_p55, List.forall_mem_cons.mpr ⟨lw_p56, List.forall_mem_cons.mpr ⟨lw_p57, List.forall_mem_cons.mpr ⟨lw_p58, List.forall_mem_cons.mpr ⟨lw_p59, List.forall_mem_cons.mpr ⟨lw_p60, List.forall_mem_cons.mpr ⟨lw_p61, List.forall_mem_cons.mpr ⟨lw_p62, List.forall_mem_cons.mpr ⟨lw_p63, fun _ h => absurd h List.not_mem_nil⟩⟩⟩⟩⟩⟩⟩⟩⟩⟩⟩⟩⟩⟩⟩⟩
theorem lw_p64 : lw_okq (⟨"RingCircuitsModel", "addRound", "()V"⟩, 31) := ⟨⟨by decide +kernel, by decide +kernel⟩, List.mem_of_getElem? (i := 929) (by decide +kernel), List.mem_of_getElem? (i := 1242) (by decide +kernel), List.mem_of_getElem? (i := 1243) (by decide +kernel)⟩
theorem lw_p65 : lw_okq (⟨"RingCircuitsModel", "findWords", "()V"⟩, 31) := ⟨⟨by decide +kernel, by decide +kernel⟩, List.mem_of_getElem? (i := 929) (by decide +kernel), List.mem_of_getElem? (i := 1246) (by decide +kernel), List.mem_of_getElem? (i := 1247) (by decide +kernel)⟩
theorem lw_p66 : lw_okq (⟨"RingCircuitsModel", "findElement", "(II)I"⟩, 31) := ⟨⟨by decide +kernel, by decide +kernel⟩, List.mem_of_getElem? (i := 929) (by decide +kernel), List.mem_of_getElem? (i := 1250) (by decide +kernel), List.mem_of_getElem? (i := 1251) (by decide +kernel)⟩
theorem lw_p67 : lw_okq (⟨"RingCircuitsModel", "putWord", "(II)V"⟩, 31) := ⟨⟨by decide +kernel, by decide +kernel⟩, List.mem_of_getElem? (i := 929) (by decide +kernel), List.mem_of_getElem? (i := 1254) (by decide +kernel), List.mem_of_getElem? (i := 1255) (by decide +kernel)⟩
theorem lw_p68 : lw_okq (⟨"RingCircuitsModel", "lower", "()V"⟩, 31) := ⟨⟨by decide +kernel, by decide +kernel⟩, List.mem_of_getElem? (i := 929) (by decide +kernel), List.mem_of_getElem? (i := 1262) (by decide +kernel), List.mem_of_getElem? (i := 1263) (by decide +kernel)⟩
theorem lw_p69 : lw_okq (⟨"RingCircuitsModel", "say", "(I)V"⟩, 31) := ⟨⟨by decide +kernel, by decide +kernel⟩, List.mem_of_getElem? (i := 929) (by decide +kernel), List.mem_of_getElem? (i := 1299) (by decide +kernel), List.mem_of_getElem? (i := 1300) (by decide +kernel)⟩
theorem lw_p70 : lw_okq (⟨"RingCircuitsModel", "readGate", "(I)I"⟩, 31) := ⟨⟨by decide +kernel, by decide +kernel⟩, List.mem_of_getElem? (i := 929) (by decide +kernel), List.mem_of_getElem? (i := 1314) (by decide +kernel), List.mem_of_getElem? (i := 1315) (by decide +kernel)⟩
theorem lw_p71 : lw_okq (⟨"RingCircuitsModel", "kindAt", "(I)I"⟩, 31) := ⟨⟨by decide +kernel, by decide +kernel⟩, List.mem_of_getElem? (i := 929) (by decide +kernel), List.mem_of_getElem? (i := 1318) (by decide +kernel), List.mem_of_getElem? (i := 1319) (by decide +kernel)⟩
theorem lw_p72 : lw_okq (⟨"RingCircuitsModel", "wireAt", "(I)I"⟩, 31) := ⟨⟨by decide +kernel, by decide +kernel⟩, List.mem_of_getElem? (i := 929) (by decide +kernel), List.mem_of_getElem? (i := 1322) (by decide +kernel), List.mem_of_getElem? (i := 1323) (by decide +kernel)⟩
def lw_privs_5 : List (MethodName × Nat) := [(⟨"RingCircuitsModel", "addRound", "()V"⟩, 31), (⟨"RingCircuitsModel", "findWords", "()V"⟩, 31), (⟨"RingCircuitsModel", "findElement", "(II)I"⟩, 31), (⟨"RingCircuitsModel", "putWord", "(II)V"⟩, 31), (⟨"RingCircuitsModel", "lower", "()V"⟩, 31), (⟨"RingCircuitsModel", "say", "(I)V"⟩, 31), (⟨"RingCircuitsModel", "readGate", "(I)I"⟩, 31), (⟨"RingCircuitsModel", "kindAt", "(I)I"⟩, 31), (⟨"RingCircuitsModel", "wireAt", "(I)I"⟩, 31)]
theorem lw_r5 : ∀ q ∈ lw_privs_5, lw_okq q := List.forall_mem_cons.mpr ⟨lw_p64, List.forall_mem_cons.mpr ⟨lw_p65, List.forall_mem_cons.mpr ⟨lw_p66, List.forall_mem_cons.mpr ⟨lw_p67, List.forall_mem_cons.mpr ⟨lw_p68, List.forall_mem_cons.mpr ⟨lw_p69, List.forall_mem_cons.mpr ⟨lw_p70, List.forall_mem_cons.mpr ⟨lw_p71, List.forall_mem_cons.mpr ⟨lw_p72, fun _ h => absurd h List.not_mem_nil⟩⟩⟩⟩⟩⟩⟩⟩⟩
def lw_privs : List (MethodName × Nat) := lw_privs_1 ++ (lw_privs_2 ++ (lw_privs_3 ++ (lw_privs_4 ++ (lw_privs_5))))
def lw_tbl : List Cond := k2_sels lw_privs ++ tables_1
theorem lw_privs_ok : ∀ q ∈ lw_privs, lw_okq q := by
  show ∀ q ∈ lw_privs_1 ++ (lw_privs_2 ++ (lw_privs_3 ++ (lw_privs_4 ++ (lw_privs_5)))), lw_okq q
  exact List.forall_mem_append.mpr ⟨lw_r1, List.forall_mem_append.mpr ⟨lw_r2, List.forall_mem_append.mpr ⟨lw_r3, List.forall_mem_append.mpr ⟨lw_r4, lw_r5⟩⟩⟩⟩
/-! ===== BEGIN words of one list among another's, by their places ===== -/
theorem goodIn_r {big : List Cond} (ws : List Cond) (ps : List Nat) (hp : ws = ps.filterMap (fun i => big[i]?)) (h : ws.all goodWord = true) : GoodIn big ws := by
  intro w hw
  have h1 := List.all_eq_true.mp h w hw
  rw [hp] at hw
  obtain ⟨i, -, hi⟩ := List.mem_filterMap.mp hw
  have hm : w ∈ big := by first | exact List.mem_of_getElem? hi | exact List.getElem?_mem hi
  exact ⟨hm, good_of_word h1⟩
theorem goodIn_app {big a b : List Cond} (ha : GoodIn big a) (hb : GoodIn big b) : GoodIn big (a ++ b) := fun w h => (List.mem_append.mp h).elim (ha w) (hb w)
theorem goodIn_ca {big a b : List Cond} {c : Cond} (ha : GoodIn big (c :: a)) (hb : GoodIn big b) : GoodIn big (c :: (a ++ b)) := fun w h => (List.mem_cons.mp h).elim (fun e => ha w (List.mem_cons.mpr (Or.inl e))) (fun h => (List.mem_append.mp h).elim (fun h => ha w (List.mem_cons.mpr (Or.inr h))) (hb w))
theorem goodIn_sub {big ws : List Cond} (hm : ∀ w ∈ ws, w ∈ big) (h : ws.all goodWord = true) : GoodIn big ws := fun w hw => ⟨hm w hw, good_of_word (List.all_eq_true.mp h w hw)⟩
/-! ===== END ===== -/

/-! ===== BEGIN exceptions that leave a method, and their catching by the caller (launches without stack traces) ===== -/
section VXA
/-! The laws vx_back, vx_callV, vx_callS, vx_callSW, vx_throw0, vx_throwS follow proofs of the library, with one case more: JvmDerived/Free/Laws.lean (Back.of_free), Shelf42/LK1.lean (callV, callS), Shelf/KitTraced.lean (throwNew0V, throwNewS). -/
/-- where a method has thrown q: the class by its name, the cell, what was written, the world -/
def vx_T (XC : String → State → State → Prop) (st : State) (q : Addr) (t : State) (mc ms : Nat) (free : Addr → Prop) : Prop :=
  ∃ (E : String) (ce : Cell) (L : List Loc), XC E st t ∧ t.heap[q]? = some ce ∧ ce.vm = .none ∧ st.vm.findClass E = some ce.cls ∧ st.WarmedH t.vm ∧ st.sameButNew ({ t with vm := st.vm } : State) L mc ms ∧ ∀ z ∈ L, free z.base
def vx_Q (Qc : Array Value → State → Outcome → State → Prop) (XC : String → State → State → Prop) (mc ms : Nat) (free : Addr → Prop) : Array Value → State → Outcome → State → Prop := fun a st o t =>
  (Qc a st o t ∧ ∃ L, FrameEnd st o t L mc ms ∧ ∀ q ∈ L, free q.base) ∨ ∃ q, o = .threw q ∧ vx_T XC st q t mc ms free
/-- a callee that returns or throws -/
def vx_Met (l : Launch) (y : MethodName) (ws : List Cond) (rm : Room) (Pc : Array Value → State → Prop) (Qc : Array Value → State → Outcome → State → Prop) (XC : String → State → State → Prop) (mc ms : Nat) (free : Addr → Prop) : Prop :=
  MetFree l y (headSpec ws rm) Pc (fun _ _ _ _ _ => True) (vx_Q Qc XC mc ms free)
def vx_Post (XC : String → State → State → Prop) (mc ms : Nat) (free : Addr → Prop) : Pt → Array Value → Addr → Pt → Prop := fun A a q B =>
  ∃ (g : JFrame) (mk : MethodId) (t : State) (L : List Loc) (E : String) (ce : Cell), B.U.heap = t.heap ∧ B.U.vm = t.vm ∧ XC E (A.U.calling g mk a) t ∧ t.heap[q]? = some ce ∧ ce.vm = .none ∧ A.U.vm.findClass E = some ce.cls ∧ B.locs = A.locs ++ L ∧ (∀ z ∈ L, free z.base) ∧ B.cells = A.cells + mc ∧ B.slots = A.slots + ms
def vx_Back (l : Launch) (R : Room) (p : Program) (e : Env) (below : List Frame) (s : State) (sargs : Array Value) (y : MethodName) (len W9 : Nat)
    (Pre : Pt → Array Value → Prop) (Post : Pt → Array Value → Option Value → Pt → Prop) (PostX : Pt → Array Value → Addr → Pt → Prop) : Prop :=
  ∀ (m : MethodId) (meth : Method) (c : Code) (A : Pt) (g : JFrame) (ig : Instr) (mk : MethodId) (a : Array Value),
    Stand p l e R s m sargs below meth c A.U A.locs A.cells A.slots → g.method = m → g.locals.size = c.maxLocals → decode c.code g.pc = .ok (ig, len) →
    2 * g.monitorRoom + (g.stack.map fun v => v.category).sum ≤ W9 → A.U.methodNamed? y = some mk → Pre A a →
    (∃ (v : Option Value) (B : Pt), Stand p l e R s m sargs below meth c B.U B.locs B.cells B.slots ∧ Post A a v B ∧
      Steps p.tables e below (doInvoke e (A.U.setTop g) [] mk a).1 (B.U.setTop { g with pc := g.pc + len, stack := v.toList ++ g.stack })) ∨
    (∃ (q : Addr) (B : Pt), Stand p l e R s m sargs below meth c B.U B.locs B.cells B.slots ∧ PostX A a q B ∧
      Steps p.tables e below (doInvoke e (A.U.setTop g) [] mk a).1 ((B.U.setTop g).pushFrame (.throwing q)))
section Payer
variable {l : Launch} {R : Room} {p : Program} {e : Env} {below : List Frame} {s : State} {sargs : Array Value} {y : MethodName} {len W9 : Nat}
theorem vx_back {ws : List Cond} {rm : Room} {Pc : Array Value → State → Prop} {Qc : Array Value → State → Outcome → State → Prop} {XC : String → State → State → Prop} {mc ms : Nat} {free : Addr → Prop} {bytes : ByteArray} {maxL : Nat} {ret : Option FieldType}
    (hM : vx_Met l y ws rm Pc Qc XC mc ms free) (hblind : FrameBlind Pc) (hrc : rm.cells = mc) (hrs : rm.slots = ms)
    (hframes : rm.frames + 1 ≤ R.frames) (hlocals : W9 + (maxL + 11) + rm.locals ≤ R.locals)
    (hws : ∀ w ∈ ws, ∀ a' U, s.WarmedH U.vm → w.before a' U = true) (hcode : Cond.code y bytes maxL ret ∈ ws) (hinit : ∀ a' U, s.WarmedH U.vm → (Cond.initialized y.cls).before a' U = true) :
    vx_Back l R p e below s sargs y len W9 (PreOf R mc ms Pc) (PostOf Qc mc ms free) (vx_Post XC mc ms free) := by
  intro m meth c A g ig mk a X hg hsize hdg hW hn hp
  have h1 : (headSpec ws rm).pre.before a A.U = true := atoms_intro fun w hw => hws w hw _ _ X.warmed
  have h2 : (Cond.code y bytes maxL ret).before a A.U = true := hws _ hcode _ _ X.warmed
  have h3 : (Cond.initialized y.cls).before a A.U = true := hinit _ _ X.warmed
  have h4 : A.cells + (headSpec ws rm).room.cells ≤ R.cells := by rw [show (headSpec ws rm).room.cells = mc from hrc]; exact hp.1
  have h5 : A.slots + (headSpec ws rm).room.slots ≤ R.slots := by rw [show (headSpec ws rm).room.slots = ms from hrs]; exact hp.2.1
  have hPc : Pc a (A.U.calling g mk a) := hblind _ _ _ _ hp.2.2
  obtain ⟨U, Ls, c0, s0⟩ := A
  dsimp only [Pt.U, Pt.locs, Pt.cells, Pt.slots] at h1 h2 h3 h4 h5 X hn hPc ⊢
  obtain ⟨methY, cY, hmY, hcY, -, hlY, -, -, -, -⟩ := Cond.code_spec hn h2
  obtain ⟨kY, hkY, -⟩ := className_of_methodNamed hn
  have hinitY : kY.init = .initialized := Cond.initialized_spec (findClass_of_methodNamed hn) hkY h3
  have h : At U g.method c below := by rw [hg]; exact X.here
  have hlocals9 : W9 + (maxL + 11) + (headSpec ws rm).room.locals ≤ R.locals := hlocals
  have happ : (headSpec ws rm).appliesLoose y e.platform (U.calling g mk a) = true :=
    Spec.appliesLoose_calling (g := g) h hdg hn hkY hinitY
      (X.room_calling (g := g) (R' := (headSpec ws rm).room) hsize hmY hcY hframes (by rw [hlY]; omega) h4 h5) h1
  obtain ⟨mid, hmid⟩ := h.above
  have hfr : (U.setTop g).frames = (.java g :: mid) ++ below := by rw [State.frames_setTop' g h.top, hmid]; rfl
  obtain ⟨o, s₂, hsteps, -, hend, hq⟩ := Steps.callFree hM p X.admits X.cas X.clock (acts := []) hfr happ hPc trivial
  have hq' : vx_Q Qc XC mc ms free a (U.calling g mk a) o s₂ := hq
  rw [State.frames_setTop' g h.top] at hend
  obtain ⟨g₀, hg0⟩ := Option.isSome_iff_exists.mp h.top
  obtain ⟨r, hr⟩ := State.topJava?_eq_some.mp hg0
  have hr' : (({ U with heap := s₂.heap, slotsUsed := s₂.slotsUsed } : State).setVm s₂.vm).frames = .java g₀ :: r := hr
  rcases hq' with ⟨hqc, L, hfe, hL⟩ | ⟨q, rfl, E, ce, L, hx, hce, hcv, hcl, hW₂, hsm, hL⟩
  · obtain ⟨⟨v, rfl⟩, hW₂, e2, q2, q3, q4, q5, q6⟩ := id hfe
    have e3 : s₂ = ({ (U.calling g mk a).setFrames s₂.frames with heap := s₂.heap, slotsUsed := s₂.slotsUsed } : State).setVm s₂.vm := by
      have : s₂ = ({ s₂ with vm := (U.calling g mk a).vm } : State).setVm s₂.vm := rfl
      rw [e2] at this
      exact this
    obtain ⟨c₂, i₂, len₂, hc₂, hd₂, hf₂⟩ := hend
    have hW' : U.WarmedH s₂.vm := hW₂
    have hcc : c₂ = c := by
      have h1 : s₂.code? g.method = U.code? g.method := by
        rw [State.code?_eq, State.code?_eq, hW'.alike.method?]
      exact Option.some.inj (hc₂.symm.trans (h1.trans h.code))
    subst hcc
    have hlen : len₂ = len := by rw [hdg] at hd₂; cases hd₂; rfl
    subst hlen
    have hs₂ : s₂ = (({ U with heap := s₂.heap, slotsUsed := s₂.slotsUsed } : State).setVm s₂.vm).setTop { g with pc := g.pc + len₂, stack := v.toList ++ g.stack } := by
      refine e3.trans ?_
      rw [hf₂, State.calling_eq h.top, State.setFrames_setFrames, State.setTop_of_frames _ hr', hr]
      rfl
    have hsame : U.sameButNew ({ U with heap := s₂.heap, slotsUsed := s₂.slotsUsed } : State) L mc ms := by
      refine ⟨?_, q2, q3, q4, q5, q6⟩
      obtain ⟨t, ht, -⟩ := State.frames_cons hr
      show ({ U with heap := s₂.heap, slotsUsed := s₂.slotsUsed } : State) = { U.setFrames U.frames with heap := s₂.heap, slotsUsed := s₂.slotsUsed }
      rw [State.setFrames_self ht]
    subst hg
    refine Or.inl ⟨v, ⟨(({ U with heap := s₂.heap, slotsUsed := s₂.slotsUsed } : State).setVm s₂.vm), Ls ++ L, c0 + mc, s0 + ms⟩,
      ⟨X.admits, X.cas, X.clock, X.frames, X.room, X.hears, X.method, X.code, (X.here.setHeapUsed s₂.heap s₂.slotsUsed).setVm hW'.alike, X.tail, State.WarmedH.trans X.warmed hW', X.limits, X.bytes, X.same.trans (hsame.setVm s.vm)⟩,
      ⟨g, mk, s₂, L, rfl, rfl, hqc, rfl, hL, rfl, rfl⟩, ?_⟩
    show Steps p.tables e below _ ((({ U with heap := s₂.heap, slotsUsed := s₂.slotsUsed } : State).setVm s₂.vm).setTop { g with pc := g.pc + len₂, stack := v.toList ++ g.stack })
    rw [← hs₂]
    exact hsteps
  · obtain ⟨e2, q2, q3, q4, q5, q6⟩ := id hsm
    have e3 : s₂ = ({ (U.calling g mk a).setFrames s₂.frames with heap := s₂.heap, slotsUsed := s₂.slotsUsed } : State).setVm s₂.vm := by
      have : s₂ = ({ s₂ with vm := (U.calling g mk a).vm } : State).setVm s₂.vm := rfl
      rw [e2] at this
      exact this
    have hf₂ : s₂.frames = .throwing q :: .java g :: U.frames.tail := hend
    have hW' : U.WarmedH s₂.vm := hW₂
    have hs₂ : s₂ = ((({ U with heap := s₂.heap, slotsUsed := s₂.slotsUsed } : State).setVm s₂.vm).setTop g).pushFrame (.throwing q) := by
      refine e3.trans ?_
      rw [hf₂, State.calling_eq h.top, State.setFrames_setFrames, State.pushFrame, State.frames_setTop _ hr', State.setTop_of_frames _ hr', State.setFrames_setFrames, hr]
      rfl
    have hsame : U.sameButNew ({ U with heap := s₂.heap, slotsUsed := s₂.slotsUsed } : State) L mc ms := by
      refine ⟨?_, q2, q3, q4, q5, q6⟩
      obtain ⟨t, ht, -⟩ := State.frames_cons hr
      show ({ U with heap := s₂.heap, slotsUsed := s₂.slotsUsed } : State) = { U.setFrames U.frames with heap := s₂.heap, slotsUsed := s₂.slotsUsed }
      rw [State.setFrames_self ht]
    subst hg
    refine Or.inr ⟨q, ⟨(({ U with heap := s₂.heap, slotsUsed := s₂.slotsUsed } : State).setVm s₂.vm), Ls ++ L, c0 + mc, s0 + ms⟩,
      ⟨X.admits, X.cas, X.clock, X.frames, X.room, X.hears, X.method, X.code, (X.here.setHeapUsed s₂.heap s₂.slotsUsed).setVm hW'.alike, X.tail, State.WarmedH.trans X.warmed hW', X.limits, X.bytes, X.same.trans (hsame.setVm s.vm)⟩,
      ⟨g, mk, s₂, L, E, ce, rfl, rfl, hx, hce, hcv, hcl, rfl, hL, rfl, rfl⟩, ?_⟩
    show Steps p.tables e below _ (((({ U with heap := s₂.heap, slotsUsed := s₂.slotsUsed } : State).setVm s₂.vm).setTop g).pushFrame (.throwing q))
    rw [← hs₂]
    exact hsteps
end Payer
section Calls
variable {p : Program} {l : Launch} {e : Env} {R : Room} {s : State} {m : MethodId} {args : Array Value} {below : List Frame} {meth : Method} {c : Code} {T : State} {locs : List Loc} {cells slots : Nat}
theorem vx_callV (X : Stand p l e R s m args below meth c T locs cells slots) (hexec : p.tables.exec = Jvm.exec) {own C : String} {index : Nat} {y : MethodName} {bytes : ByteArray} {maxL : Nat} {ret : Option FieldType}
    (hown : s.vm.findClass own = some m.cls) (hlink : (Cond.methodLink own index y).before args s = true) (hinst : (Cond.instanceMethod y).before args s = true) (hsel : (Cond.selects C y y).before args s = true)
    (hcode : (Cond.code y bytes maxL ret).before args s = true) (hy : y.cls ≠ "java/lang/invoke/MethodHandle" ∧ y.cls ≠ "java/lang/invoke/VarHandle")
    {W9 : Nat} {Pre : Pt → Array Value → Prop} {Post : Pt → Array Value → Option Value → Pt → Prop} {PostX : Pt → Array Value → Addr → Pt → Prop} (hK : vx_Back l R p e below s args y 3 W9 Pre Post PostX)
    {b : Addr} {cellB : Cell} (hcell : T.heap[b]? = some cellB) (hobj : cellB.vm.isStatics = false) (hcls : s.vm.findClass C = some cellB.cls)
    {g : JFrame} (hg : g.method = m) (hsize : g.locals.size = c.maxLocals) {argsL rest : List Value} (hlen : ∀ sig, parseMethodDescriptor y.desc = some sig → argsL.length = sig.parameters.length)
    (hstack : g.stack = argsL.reverse ++ .ref b :: rest) (hW : 2 * g.monitorRoom + (rest.map fun v => v.category).sum ≤ W9) (hdg : decode c.code g.pc = .ok (.invokevirtual index, 3))
    (hpre : ∀ vm₁, s.WarmedH vm₁ → Pre ⟨T.setVm vm₁, locs, cells, slots⟩ (Value.ref b :: argsL).toArray) :
    (∃ (v : Option Value) (vm₁ : Vm) (B : Pt), s.WarmedH vm₁ ∧ Stand p l e R s m args below meth c B.U B.locs B.cells B.slots ∧ Post ⟨T.setVm vm₁, locs, cells, slots⟩ (Value.ref b :: argsL).toArray v B ∧
      ∀ target, Steps p.tables e below (B.U.setTop { g with pc := g.pc + 3, stack := v.toList ++ rest }) target → Steps p.tables e below (T.setTop g) target) ∨
    (∃ (q : Addr) (vm₁ : Vm) (B : Pt), s.WarmedH vm₁ ∧ Stand p l e R s m args below meth c B.U B.locs B.cells B.slots ∧ PostX ⟨T.setVm vm₁, locs, cells, slots⟩ (Value.ref b :: argsL).toArray q B ∧
      Steps p.tables e below (T.setTop g) ((B.U.setTop { g with stack := rest }).pushFrame (.throwing q))) := by
  obtain ⟨mk, methM, hnamed, hmethM, hstM, habM⟩ := Cond.instanceMethod_spec hinst
  obtain ⟨methM', cM, hmethM', -, -, -, -, -, -, hsigM⟩ := Cond.code_spec hnamed hcode
  cases hmethM.symm.trans hmethM'
  obtain ⟨c2, r2, m2, q1, q2, q3, q4, kP, hkP, hkPi⟩ := Cond.selects_spec hsel
  cases hcls.symm.trans q1
  cases (State.methodFound?_of_named hnamed hy).symm.trans q2
  cases hnamed.symm.trans q3
  have hselP : selectMethod e.platform s.vm cellB.cls mk = .method mk := by rw [Launch.admits_selectMethod X.admits]; exact q4
  obtain ⟨vm₁, X₁, hstep₁⟩ := X.invokevirtual hexec hown hlink hnamed hmethM hstM hkP hkPi hy (a := b) (cell := cellB) hcell
    (fun z h => by rw [h] at hobj; cases hobj) hselP hmethM habM hkP hkPi (g := g) hg (argsL := argsL) (rest := rest) (hlen _ hsigM) hstack hdg
  rcases hK m meth c ⟨T.setVm vm₁, locs, cells, slots⟩ { g with stack := rest } (.invokevirtual index) mk (Value.ref b :: argsL).toArray X₁ hg hsize hdg hW (X₁.named hnamed) (hpre vm₁ X₁.warmed) with ⟨v, B, X', hpost, hsteps⟩ | ⟨q, B, X', hpost, hsteps⟩
  · exact Or.inl ⟨v, vm₁, B, X₁.warmed, X', hpost, fun target h => hstep₁ _ fun acts => by rw [doInvoke_state]; exact hsteps.trans h⟩
  · exact Or.inr ⟨q, vm₁, B, X₁.warmed, X', hpost, hstep₁ _ fun acts => by rw [doInvoke_state]; exact hsteps⟩
theorem vx_callS (X : Stand p l e R s m args below meth c T locs cells slots) (hexec : p.tables.exec = Jvm.exec) {own : String} {index : Nat} {y : MethodName} {bytes : ByteArray} {maxL : Nat} {ret : Option FieldType}
    (hown : s.vm.findClass own = some m.cls) (hlink : (Cond.methodLink own index y).before args s = true) (hstat : (Cond.static y).before args s = true) (hinit : (Cond.initialized y.cls).before args s = true)
    (hcode : (Cond.code y bytes maxL ret).before args s = true) (hy : y.cls ≠ "java/lang/invoke/MethodHandle" ∧ y.cls ≠ "java/lang/invoke/VarHandle")
    {W9 : Nat} {Pre : Pt → Array Value → Prop} {Post : Pt → Array Value → Option Value → Pt → Prop} {PostX : Pt → Array Value → Addr → Pt → Prop} (hK : vx_Back l R p e below s args y 3 W9 Pre Post PostX)
    {g : JFrame} (hg : g.method = m) (hsize : g.locals.size = c.maxLocals) {argsL rest : List Value} (hlen : ∀ sig, parseMethodDescriptor y.desc = some sig → argsL.length = sig.parameters.length)
    (hstack : g.stack = argsL.reverse ++ rest) (hW : 2 * g.monitorRoom + (rest.map fun v => v.category).sum ≤ W9) (hdg : decode c.code g.pc = .ok (.invokestatic index, 3))
    (hpre : ∀ vm₁, s.WarmedH vm₁ → Pre ⟨T.setVm vm₁, locs, cells, slots⟩ argsL.toArray) :
    (∃ (v : Option Value) (vm₁ : Vm) (B : Pt), s.WarmedH vm₁ ∧ Stand p l e R s m args below meth c B.U B.locs B.cells B.slots ∧ Post ⟨T.setVm vm₁, locs, cells, slots⟩ argsL.toArray v B ∧
      ∀ target, Steps p.tables e below (B.U.setTop { g with pc := g.pc + 3, stack := v.toList ++ rest }) target → Steps p.tables e below (T.setTop g) target) ∨
    (∃ (q : Addr) (vm₁ : Vm) (B : Pt), s.WarmedH vm₁ ∧ Stand p l e R s m args below meth c B.U B.locs B.cells B.slots ∧ PostX ⟨T.setVm vm₁, locs, cells, slots⟩ argsL.toArray q B ∧
      Steps p.tables e below (T.setTop g) ((B.U.setTop { g with stack := rest }).pushFrame (.throwing q))) := by
  obtain ⟨mk, hnamed⟩ := Cond.code_named hcode
  obtain ⟨methM, cM, hmethM, -, -, -, -, -, -, hsigM⟩ := Cond.code_spec hnamed hcode
  have hstatic : methM.isStatic = true := Cond.static_spec hnamed hmethM hstat
  obtain ⟨kP, hkP, -⟩ := className_of_methodNamed hnamed
  have hinitP : kP.init = .initialized := Cond.initialized_spec (findClass_of_methodNamed hnamed) hkP hinit
  obtain ⟨vm₁, X₁, hstep₁⟩ := X.invokestatic hexec hown hlink hnamed hmethM hstatic hkP hinitP hy (g := g) hg (argsL := argsL) (rest := rest) (hlen _ hsigM) hstack hdg
  rcases hK m meth c ⟨T.setVm vm₁, locs, cells, slots⟩ { g with stack := rest } (.invokestatic index) mk argsL.toArray X₁ hg hsize hdg hW (X₁.named hnamed) (hpre vm₁ X₁.warmed) with ⟨v, B, X', hpost, hsteps⟩ | ⟨q, B, X', hpost, hsteps⟩
  · exact Or.inl ⟨v, vm₁, B, X₁.warmed, X', hpost, fun target h => hstep₁ _ fun acts => by rw [doInvoke_state]; exact hsteps.trans h⟩
  · exact Or.inr ⟨q, vm₁, B, X₁.warmed, X', hpost, hstep₁ _ fun acts => by rw [doInvoke_state]; exact hsteps⟩
end Calls
theorem vx_cls {s : State} {T : State} {vm₁ : Vm} {E : String} {k : ClassId} (hW : s.WarmedH vm₁) (h : (T.setVm vm₁).vm.findClass E = some k) : s.vm.findClass E = some k := by
  have h1 : vm₁.findClass E = some k := h
  rw [hW.alike.findClass] at h1
  exact h1
/-- the method's frame g, with q thrown over it -/
def vx_W (p : Program) (l : Launch) (e : Env) (R : Room) (s : State) (m : MethodId) (args : Array Value) (below : List Frame) (meth : Method) (c : Code) (H : Heap) (locs : List Loc) (cells slots : Nat) (Q : State → Prop) (g : JFrame) (q : Addr) : Prop :=
  ∀ T : State, T.heap = H → Stand p l e R s m args below meth c T locs cells slots → ∃ t, Steps p.tables e below ((T.setTop g).pushFrame (.throwing q)) t ∧ Q t
def vx_Run (p : Program) (l : Launch) (e : Env) (R : Room) (s : State) (m : MethodId) (args : Array Value) (below : List Frame) (meth : Method) (c : Code) (H : Heap) (locs : List Loc) (cells slots mc ms : Nat) (g : JFrame) (rest : List Value) (Qa : State → Outcome → State → Prop) (XC : String → State → State → Prop) (free : Addr → Prop) : Prop :=
  ∀ T : State, T.heap = H → Stand p l e R s m args below meth c T locs cells slots →
    (∃ (v : Option Value) (st₀ t T' : State) (L : List Loc), st₀.heap = H ∧ Stand p l e R s m args below meth c T' (locs ++ L) (cells + mc) (slots + ms) ∧ (∀ q ∈ L, free q.base) ∧ T'.heap = t.heap ∧ T'.vm = t.vm ∧ Qa st₀ (.returned v) t ∧
      Goes p e below T g T' { g with pc := g.pc + 3, stack := v.toList ++ rest }) ∨
    (∃ (q : Addr) (st₀ t T' : State) (L : List Loc) (E : String) (ce : Cell), st₀.heap = H ∧ Stand p l e R s m args below meth c T' (locs ++ L) (cells + mc) (slots + ms) ∧ (∀ z ∈ L, free z.base) ∧ T'.heap = t.heap ∧ T'.vm = t.vm ∧ XC E st₀ t ∧ t.heap[q]? = some ce ∧ ce.vm = .none ∧ s.vm.findClass E = some ce.cls ∧
      Steps p.tables e below (T.setTop g) ((T'.setTop { g with stack := rest }).pushFrame (.throwing q)))
def vx_X {S : Type} (px : S → Prop) (B : String → S → State → Prop) (A : Nat → Prop) : String → State → State → Prop := fun E st t => ∃ u : S, px u ∧ B E u t ∧ va_F A st t
section Runs
variable {p : Program} {l : Launch} {e : Env} {R : Room} {s : State} {m : MethodId} {args : Array Value} {below : List Frame} {meth : Method} {c : Code} {H : Heap} {locs : List Loc} {cells slots : Nat}
variable {y : MethodName} {bytes cc : ByteArray} {maxL nL mc ms n index : Nat} {ret : Option FieldType} {ws : List Cond} {rm : Room} {Pc : Array Value → State → Prop} {Qc : Array Value → State → Outcome → State → Prop} {XC : String → State → State → Prop} {free : Addr → Prop} {Ts : List Cond} {own C : String} {b : Addr} {As rest : List Value} {g : JFrame}
theorem vx_callBack (cb : CallB R s args own index y bytes maxL ret ws rm mc ms n) (hM : vx_Met l y ws rm Pc Qc XC mc ms free) (hbl : FrameBlind Pc) : vx_Back l R p e below s args y 3 8 (PreOf R mc ms Pc) (PostOf Qc mc ms free) (vx_Post XC mc ms free) := by
  obtain ⟨hrc, hrs, hfr, hlo, hws, hcw, -, hini, -⟩ := cb
  exact vx_back (bytes := bytes) (maxL := maxL) (ret := ret) hM hbl hrc hrs hfr hlo hws hcw (fun a' U hW => word_at hW (Or.inl (by first | rfl | simp [Cond.onTables, Cond.keeps, Cond.steady])) hini)
theorem vx_runV (S : CallFix p m c cc nL s args Ts own) (hM : vx_Met l y ws rm Pc Qc XC mc ms free) (cw : CallW R s args own C index y bytes maxL ret ws rm mc ms n) (hp : PreV s H C b Pc As)
    (hg : g.method = m) (hn : As.length = n) (hsize : g.locals.size = nL) (hstack : g.stack = As.reverse ++ .ref b :: rest) (hW : 2 * g.monitorRoom + (rest.map fun v => v.category).sum ≤ 8) (hdg : decode cc g.pc = .ok (.invokevirtual index, 3)) (hf : cells + mc ≤ R.cells ∧ slots + ms ≤ R.slots) :
    vx_Run p l e R s m args below meth c H locs cells slots mc ms g rest (Qc (Value.ref b :: As).toArray) XC free := by
  have hK : vx_Back l R p e below s args y 3 8 (PreOf R mc ms Pc) (PostOf Qc mc ms free) (vx_Post XC mc ms free) := vx_callBack cw.1 hM hp.1
  obtain ⟨⟨-, -, -, -, -, -, hcode, -, hy, hlen, hl⟩, hin, hse⟩ := cw
  obtain ⟨hx, hb, hml, ho, -⟩ := S
  obtain ⟨-, ⟨cellB, hcB, hoB, hclB⟩, hPc⟩ := hp
  intro T hT X
  rcases vx_callV X hx (C := C) (bytes := bytes) (maxL := maxL) (ret := ret) ho hl hin hse hcode hy hK (by rw [hT]; exact hcB) hoB hclB hg (hsize.trans hml.symm) (argsL := As) (rest := rest) (fun sig h => hn.trans (hlen sig h)) hstack hW (by rw [hb]; exact hdg)
    (fun vm₁ hW₁ => ⟨hf.1, hf.2, hPc (T.setVm vm₁) hT hW₁⟩) with ⟨v, vm₁, ⟨U', l2, c2, s2⟩, hW₁, X', ⟨g', mk, t, L, e1, e2, hq, h1, hL, h2, h3⟩, st⟩ | ⟨q, vm₁, ⟨U', l2, c2, s2⟩, hW₁, X', ⟨g', mk, t, L, E, ce, e1, e2, hq, hce, hcv, hcl, h1, hL, h2, h3⟩, st⟩
  · dsimp only [Pt.U, Pt.locs, Pt.cells, Pt.slots] at X' e1 e2 h1 h2 h3 st
    subst h1; subst h2; subst h3
    exact Or.inl ⟨v, (T.setVm vm₁).calling g' mk (Value.ref b :: As).toArray, t, U', L, hT, X', hL, e1, e2, hq, st⟩
  · dsimp only [Pt.U, Pt.locs, Pt.cells, Pt.slots] at X' e1 e2 h1 h2 h3 st hcl
    subst h1; subst h2; subst h3
    exact Or.inr ⟨q, (T.setVm vm₁).calling g' mk (Value.ref b :: As).toArray, t, U', L, E, ce, hT, X', hL, e1, e2, hq, hce, hcv, vx_cls hW₁ hcl, st⟩
theorem vx_runS (S : CallFix p m c cc nL s args Ts own) (hM : vx_Met l y ws rm Pc Qc XC mc ms free) (cw : CallB R s args own index y bytes maxL ret ws rm mc ms n ∧ (Cond.static y).before args s = true) (hp : PreS s H Pc As)
    (hg : g.method = m) (hn : As.length = n) (hsize : g.locals.size = nL) (hstack : g.stack = As.reverse ++ rest) (hW : 2 * g.monitorRoom + (rest.map fun v => v.category).sum ≤ 8) (hdg : decode cc g.pc = .ok (.invokestatic index, 3)) (hf : cells + mc ≤ R.cells ∧ slots + ms ≤ R.slots) :
    vx_Run p l e R s m args below meth c H locs cells slots mc ms g rest (Qc As.toArray) XC free := by
  have hK : vx_Back l R p e below s args y 3 8 (PreOf R mc ms Pc) (PostOf Qc mc ms free) (vx_Post XC mc ms free) := vx_callBack cw.1 hM hp.1
  obtain ⟨⟨-, -, -, -, -, -, hcode, hini, hy, hlen, hl⟩, hstt⟩ := cw
  obtain ⟨hx, hb, hml, ho, -⟩ := S
  intro T hT X
  rcases vx_callS X hx (bytes := bytes) (maxL := maxL) (ret := ret) ho hl hstt hini hcode hy hK hg (hsize.trans hml.symm) (argsL := As) (rest := rest) (fun sig h => hn.trans (hlen sig h)) hstack hW (by rw [hb]; exact hdg)
    (fun vm₁ hW₁ => ⟨hf.1, hf.2, hp.2 (T.setVm vm₁) hT hW₁⟩) with ⟨v, vm₁, ⟨U', l2, c2, s2⟩, hW₁, X', ⟨g', mk, t, L, e1, e2, hq, h1, hL, h2, h3⟩, st⟩ | ⟨q, vm₁, ⟨U', l2, c2, s2⟩, hW₁, X', ⟨g', mk, t, L, E, ce, e1, e2, hq, hce, hcv, hcl, h1, hL, h2, h3⟩, st⟩
  · dsimp only [Pt.U, Pt.locs, Pt.cells, Pt.slots] at X' e1 e2 h1 h2 h3 st
    subst h1; subst h2; subst h3
    exact Or.inl ⟨v, (T.setVm vm₁).calling g' mk As.toArray, t, U', L, hT, X', hL, e1, e2, hq, st⟩
  · dsimp only [Pt.U, Pt.locs, Pt.cells, Pt.slots] at X' e1 e2 h1 h2 h3 st hcl
    subst h1; subst h2; subst h3
    exact Or.inr ⟨q, (T.setVm vm₁).calling g' mk As.toArray, t, U', L, E, ce, hT, X', hL, e1, e2, hq, hce, hcv, vx_cls hW₁ hcl, st⟩
end Runs
section Rows
variable {p : Program} {l : Launch} {e : Env} {R : Room} {s : State} {m : MethodId} {args : Array Value} {below : List Frame} {meth : Method} {c : Code} {H : Heap} {locs : List Loc} {cells slots : Nat} {Q : State → Prop}
variable {mc ms : Nat} {free : Addr → Prop} {A0 A1 : Nat → Prop} {H0 : Heap} {a : Array Value} {pc : Nat} {ls : Array Slot} {st0 rest : List Value}
theorem vx_keep {st₀ t T' : State} {L : List Loc} (h0 : st₀.heap = H) (e1 : T'.heap = t.heap) (hS : va_S A0 H0 H locs) (hA : ∀ q, q < H.size → A1 q → A0 q) (hf : ∀ q, free q → A0 q) (hL : ∀ q ∈ L, free q.base) (hF : va_F A1 st₀ t) :
    H.size ≤ T'.heap.size ∧ (∀ q : Nat, q < H.size → ¬ A1 q → T'.heap[q]? = H[q]?) ∧ va_S A0 H0 T'.heap (locs ++ L) := by
  obtain ⟨hz, hk⟩ := hF
  rw [h0] at hz hk
  exact ⟨by rw [e1]; exact hz, fun q h1 h2 => by rw [e1]; exact hk q h1 h2,
    ⟨Nat.le_trans hS.1 (by rw [e1]; exact hz), fun q h1 h2 => by rw [e1, hk q (Nat.lt_of_lt_of_le h1 hS.1) (fun z => h2 (hA q (Nat.lt_of_lt_of_le h1 hS.1) z))]; exact hS.2.1 q h1 h2, fun q hq => by
      rcases List.mem_append.mp hq with h | h
      · exact hS.2.2 q h
      · exact hf _ (hL q h)⟩⟩
theorem vx_calli {S SX : Type} {post : Int32 → S → Prop} {px : SX → Prop} {B : S → State → Prop} {BX : String → SX → State → Prop} {AX : Nat → Prop} (hr : vx_Run p l e R s m args below meth c H locs cells slots mc ms (F0 m pc ls st0) rest (va_Qi post B A1 a) (vx_X px BX AX) free) (hS : va_S A0 H0 H locs) (hA : ∀ q, q < H.size → A1 q → A0 q) (hf : ∀ q, free q → A0 q) (hAX : ∀ q, q < H.size → AX q → A0 q)
    (kx : ∀ (E : String) (ce : Cell) (q9 : Addr) (u : SX) (t : State) (H1 : Heap) (locs1 : List Loc), t.heap = H1 → s.vm.Alike t.vm → px u → BX E u t → H.size ≤ H1.size → (∀ q : Nat, q < H.size → ¬ AX q → H1[q]? = H[q]?) → va_S A0 H0 H1 locs1 → H1[q9]? = some ce → ce.vm = .none → s.vm.findClass E = some ce.cls → vx_W p l e R s m args below meth c H1 locs1 (cells + mc) (slots + ms) Q (F0 m pc ls rest) q9)
    (kk : ∀ (r : Int32) (u : S) (t : State) (H1 : Heap) (locs1 : List Loc), t.heap = H1 → s.vm.Alike t.vm → post r u → B u t → H.size ≤ H1.size → (∀ q : Nat, q < H.size → ¬ A1 q → H1[q]? = H[q]?) → va_S A0 H0 H1 locs1 → W p l e R s m args below meth c H1 locs1 (cells + mc) (slots + ms) Q (F0 m (pc + 3) ls (.int r :: rest))) : W p l e R s m args below meth c H locs cells slots Q (F0 m pc ls st0) := by
  intro T hT X
  rcases hr T hT X with ⟨v, st₀, t, T', L, h0, X', hL, e1, e2, ⟨⟨r, u, hv, hp, hb⟩, hF⟩, st⟩ | ⟨q, st₀, t, T', L, E, ce, h0, X', hL, e1, e2, ⟨u, hp, hb, hF⟩, hce, hcv, hcl, st⟩
  · cases hv
    obtain ⟨k1, k2, k3⟩ := vx_keep h0 e1 hS hA hf hL hF
    obtain ⟨t2, a1, b1⟩ := kk r u t T'.heap (locs ++ L) e1.symm (by rw [← e2]; exact X'.warmed.alike) hp hb k1 k2 k3 T' rfl X'
    exact ⟨t2, st t2 a1, b1⟩
  · obtain ⟨k1, k2, k3⟩ := vx_keep h0 e1 hS hAX hf hL hF
    obtain ⟨t2, a1, b1⟩ := kx E ce q u t T'.heap (locs ++ L) e1.symm (by rw [← e2]; exact X'.warmed.alike) hp hb k1 k2 k3 (by rw [e1]; exact hce) hcv hcl T' rfl X'
    exact ⟨t2, st.trans a1, b1⟩
theorem vx_calll {S SX : Type} {post : Int64 → S → Prop} {px : SX → Prop} {B : S → State → Prop} {BX : String → SX → State → Prop} {AX : Nat → Prop} (hr : vx_Run p l e R s m args below meth c H locs cells slots mc ms (F0 m pc ls st0) rest (va_Ql post B A1 a) (vx_X px BX AX) free) (hS : va_S A0 H0 H locs) (hA : ∀ q, q < H.size → A1 q → A0 q) (hf : ∀ q, free q → A0 q) (hAX : ∀ q, q < H.size → AX q → A0 q)
    (kx : ∀ (E : String) (ce : Cell) (q9 : Addr) (u : SX) (t : State) (H1 : Heap) (locs1 : List Loc), t.heap = H1 → s.vm.Alike t.vm → px u → BX E u t → H.size ≤ H1.size → (∀ q : Nat, q < H.size → ¬ AX q → H1[q]? = H[q]?) → va_S A0 H0 H1 locs1 → H1[q9]? = some ce → ce.vm = .none → s.vm.findClass E = some ce.cls → vx_W p l e R s m args below meth c H1 locs1 (cells + mc) (slots + ms) Q (F0 m pc ls rest) q9)
    (kk : ∀ (r : Int64) (u : S) (t : State) (H1 : Heap) (locs1 : List Loc), t.heap = H1 → s.vm.Alike t.vm → post r u → B u t → H.size ≤ H1.size → (∀ q : Nat, q < H.size → ¬ A1 q → H1[q]? = H[q]?) → va_S A0 H0 H1 locs1 → W p l e R s m args below meth c H1 locs1 (cells + mc) (slots + ms) Q (F0 m (pc + 3) ls (.long r :: rest))) : W p l e R s m args below meth c H locs cells slots Q (F0 m pc ls st0) := by
  intro T hT X
  rcases hr T hT X with ⟨v, st₀, t, T', L, h0, X', hL, e1, e2, ⟨⟨r, u, hv, hp, hb⟩, hF⟩, st⟩ | ⟨q, st₀, t, T', L, E, ce, h0, X', hL, e1, e2, ⟨u, hp, hb, hF⟩, hce, hcv, hcl, st⟩
  · cases hv
    obtain ⟨k1, k2, k3⟩ := vx_keep h0 e1 hS hA hf hL hF
    obtain ⟨t2, a1, b1⟩ := kk r u t T'.heap (locs ++ L) e1.symm (by rw [← e2]; exact X'.warmed.alike) hp hb k1 k2 k3 T' rfl X'
    exact ⟨t2, st t2 a1, b1⟩
  · obtain ⟨k1, k2, k3⟩ := vx_keep h0 e1 hS hAX hf hL hF
    obtain ⟨t2, a1, b1⟩ := kx E ce q u t T'.heap (locs ++ L) e1.symm (by rw [← e2]; exact X'.warmed.alike) hp hb k1 k2 k3 (by rw [e1]; exact hce) hcv hcl T' rfl X'
    exact ⟨t2, st.trans a1, b1⟩
theorem vx_callf {S SX : Type} {post : UInt32 → S → Prop} {px : SX → Prop} {B : S → State → Prop} {BX : String → SX → State → Prop} {AX : Nat → Prop} (hr : vx_Run p l e R s m args below meth c H locs cells slots mc ms (F0 m pc ls st0) rest (va_Qf post B A1 a) (vx_X px BX AX) free) (hS : va_S A0 H0 H locs) (hA : ∀ q, q < H.size → A1 q → A0 q) (hf : ∀ q, free q → A0 q) (hAX : ∀ q, q < H.size → AX q → A0 q)
    (kx : ∀ (E : String) (ce : Cell) (q9 : Addr) (u : SX) (t : State) (H1 : Heap) (locs1 : List Loc), t.heap = H1 → s.vm.Alike t.vm → px u → BX E u t → H.size ≤ H1.size → (∀ q : Nat, q < H.size → ¬ AX q → H1[q]? = H[q]?) → va_S A0 H0 H1 locs1 → H1[q9]? = some ce → ce.vm = .none → s.vm.findClass E = some ce.cls → vx_W p l e R s m args below meth c H1 locs1 (cells + mc) (slots + ms) Q (F0 m pc ls rest) q9)
    (kk : ∀ (r : UInt32) (u : S) (t : State) (H1 : Heap) (locs1 : List Loc), t.heap = H1 → s.vm.Alike t.vm → post r u → B u t → H.size ≤ H1.size → (∀ q : Nat, q < H.size → ¬ A1 q → H1[q]? = H[q]?) → va_S A0 H0 H1 locs1 → W p l e R s m args below meth c H1 locs1 (cells + mc) (slots + ms) Q (F0 m (pc + 3) ls (.float r :: rest))) : W p l e R s m args below meth c H locs cells slots Q (F0 m pc ls st0) := by
  intro T hT X
  rcases hr T hT X with ⟨v, st₀, t, T', L, h0, X', hL, e1, e2, ⟨⟨r, u, hv, hp, hb⟩, hF⟩, st⟩ | ⟨q, st₀, t, T', L, E, ce, h0, X', hL, e1, e2, ⟨u, hp, hb, hF⟩, hce, hcv, hcl, st⟩
  · cases hv
    obtain ⟨k1, k2, k3⟩ := vx_keep h0 e1 hS hA hf hL hF
    obtain ⟨t2, a1, b1⟩ := kk r u t T'.heap (locs ++ L) e1.symm (by rw [← e2]; exact X'.warmed.alike) hp hb k1 k2 k3 T' rfl X'
    exact ⟨t2, st t2 a1, b1⟩
  · obtain ⟨k1, k2, k3⟩ := vx_keep h0 e1 hS hAX hf hL hF
    obtain ⟨t2, a1, b1⟩ := kx E ce q u t T'.heap (locs ++ L) e1.symm (by rw [← e2]; exact X'.warmed.alike) hp hb k1 k2 k3 (by rw [e1]; exact hce) hcv hcl T' rfl X'
    exact ⟨t2, st.trans a1, b1⟩
theorem vx_calld {S SX : Type} {post : UInt64 → S → Prop} {px : SX → Prop} {B : S → State → Prop} {BX : String → SX → State → Prop} {AX : Nat → Prop} (hr : vx_Run p l e R s m args below meth c H locs cells slots mc ms (F0 m pc ls st0) rest (va_Qd post B A1 a) (vx_X px BX AX) free) (hS : va_S A0 H0 H locs) (hA : ∀ q, q < H.size → A1 q → A0 q) (hf : ∀ q, free q → A0 q) (hAX : ∀ q, q < H.size → AX q → A0 q)
    (kx : ∀ (E : String) (ce : Cell) (q9 : Addr) (u : SX) (t : State) (H1 : Heap) (locs1 : List Loc), t.heap = H1 → s.vm.Alike t.vm → px u → BX E u t → H.size ≤ H1.size → (∀ q : Nat, q < H.size → ¬ AX q → H1[q]? = H[q]?) → va_S A0 H0 H1 locs1 → H1[q9]? = some ce → ce.vm = .none → s.vm.findClass E = some ce.cls → vx_W p l e R s m args below meth c H1 locs1 (cells + mc) (slots + ms) Q (F0 m pc ls rest) q9)
    (kk : ∀ (r : UInt64) (u : S) (t : State) (H1 : Heap) (locs1 : List Loc), t.heap = H1 → s.vm.Alike t.vm → post r u → B u t → H.size ≤ H1.size → (∀ q : Nat, q < H.size → ¬ A1 q → H1[q]? = H[q]?) → va_S A0 H0 H1 locs1 → W p l e R s m args below meth c H1 locs1 (cells + mc) (slots + ms) Q (F0 m (pc + 3) ls (.double r :: rest))) : W p l e R s m args below meth c H locs cells slots Q (F0 m pc ls st0) := by
  intro T hT X
  rcases hr T hT X with ⟨v, st₀, t, T', L, h0, X', hL, e1, e2, ⟨⟨r, u, hv, hp, hb⟩, hF⟩, st⟩ | ⟨q, st₀, t, T', L, E, ce, h0, X', hL, e1, e2, ⟨u, hp, hb, hF⟩, hce, hcv, hcl, st⟩
  · cases hv
    obtain ⟨k1, k2, k3⟩ := vx_keep h0 e1 hS hA hf hL hF
    obtain ⟨t2, a1, b1⟩ := kk r u t T'.heap (locs ++ L) e1.symm (by rw [← e2]; exact X'.warmed.alike) hp hb k1 k2 k3 T' rfl X'
    exact ⟨t2, st t2 a1, b1⟩
  · obtain ⟨k1, k2, k3⟩ := vx_keep h0 e1 hS hAX hf hL hF
    obtain ⟨t2, a1, b1⟩ := kx E ce q u t T'.heap (locs ++ L) e1.symm (by rw [← e2]; exact X'.warmed.alike) hp hb k1 k2 k3 (by rw [e1]; exact hce) hcv hcl T' rfl X'
    exact ⟨t2, st.trans a1, b1⟩
theorem vx_callv {S SX : Type} {post : S → Prop} {px : SX → Prop} {B : S → State → Prop} {BX : String → SX → State → Prop} {AX : Nat → Prop} (hr : vx_Run p l e R s m args below meth c H locs cells slots mc ms (F0 m pc ls st0) rest (va_Qv post B A1 a) (vx_X px BX AX) free) (hS : va_S A0 H0 H locs) (hA : ∀ q, q < H.size → A1 q → A0 q) (hf : ∀ q, free q → A0 q) (hAX : ∀ q, q < H.size → AX q → A0 q)
    (kx : ∀ (E : String) (ce : Cell) (q9 : Addr) (u : SX) (t : State) (H1 : Heap) (locs1 : List Loc), t.heap = H1 → s.vm.Alike t.vm → px u → BX E u t → H.size ≤ H1.size → (∀ q : Nat, q < H.size → ¬ AX q → H1[q]? = H[q]?) → va_S A0 H0 H1 locs1 → H1[q9]? = some ce → ce.vm = .none → s.vm.findClass E = some ce.cls → vx_W p l e R s m args below meth c H1 locs1 (cells + mc) (slots + ms) Q (F0 m pc ls rest) q9)
    (kk : ∀ (u : S) (t : State) (H1 : Heap) (locs1 : List Loc), t.heap = H1 → s.vm.Alike t.vm → post u → B u t → H.size ≤ H1.size → (∀ q : Nat, q < H.size → ¬ A1 q → H1[q]? = H[q]?) → va_S A0 H0 H1 locs1 → W p l e R s m args below meth c H1 locs1 (cells + mc) (slots + ms) Q (F0 m (pc + 3) ls (rest))) : W p l e R s m args below meth c H locs cells slots Q (F0 m pc ls st0) := by
  intro T hT X
  rcases hr T hT X with ⟨v, st₀, t, T', L, h0, X', hL, e1, e2, ⟨⟨u, hv, hp, hb⟩, hF⟩, st⟩ | ⟨q, st₀, t, T', L, E, ce, h0, X', hL, e1, e2, ⟨u, hp, hb, hF⟩, hce, hcv, hcl, st⟩
  · cases hv
    obtain ⟨k1, k2, k3⟩ := vx_keep h0 e1 hS hA hf hL hF
    obtain ⟨t2, a1, b1⟩ := kk u t T'.heap (locs ++ L) e1.symm (by rw [← e2]; exact X'.warmed.alike) hp hb k1 k2 k3 T' rfl X'
    exact ⟨t2, st t2 a1, b1⟩
  · obtain ⟨k1, k2, k3⟩ := vx_keep h0 e1 hS hAX hf hL hF
    obtain ⟨t2, a1, b1⟩ := kx E ce q u t T'.heap (locs ++ L) e1.symm (by rw [← e2]; exact X'.warmed.alike) hp hb k1 k2 k3 (by rw [e1]; exact hce) hcv hcl T' rfl X'
    exact ⟨t2, st.trans a1, b1⟩
/-- caught by the row x of this method's table; the rows ahead don't take it -/
theorem vx_catch {own name : String} {E : String} {ce : Cell} {q : Addr} (hown : s.vm.findClass own = some m.cls) (pre : List ExceptionTableEntry) (x : ExceptionTableEntry) (suf : List ExceptionTableEntry) (hsplit : c.exceptionTable.toList = pre ++ x :: suf)
    (hpass : ∀ z ∈ pre, covers z pc = false ∨ (z.catchType ≠ 0 ∧ ∃ nm : String, (Cond.classLink own z.catchType nm).before args s = true ∧ va_Nc E nm s)) (hx : covers x pc = true) (h0 : x.catchType ≠ 0)
    (hlink : (Cond.classLink own x.catchType name).before args s = true) (hcast : (Cond.castable E name).before args s = true) (hcell : H[q]? = some ce) (hv : ce.vm = .none) (hcl : s.vm.findClass E = some ce.cls)
    (kk : W p l e R s m args below meth c H locs cells slots Q (F0 m x.handlerPc ls [.ref q])) : vx_W p l e R s m args below meth c H locs cells slots Q (F0 m pc ls rest) q := by
  intro T hT X
  have hpl : e.platform.magicAccessors = ({} : Platform).magicAccessors := by rw [X.admits.platform]
  obtain ⟨c3, c4, hc3, hc4, hasg⟩ := Cond.castable_spec hcast
  cases Option.some.inj (hc3.symm.trans hcl)
  obtain ⟨c5, hc5, hcl5⟩ := Cond.classLink_spec hown hlink e.platform hpl
  cases Option.some.inj (hc4.symm.trans hc5)
  obtain ⟨vm', X', st⟩ := X.thenCaughtThrough q (g := F0 m pc ls rest) rfl (Steps.refl _) (by rw [hT]; exact hcell) (by rw [hv]; rfl) (by obtain ⟨k9, h9, -⟩ := Vm.findClass_spec hcl; exact ⟨k9, h9⟩) pre x suf hsplit
    (fun z hz => by
      rcases hpass z hz with h | ⟨hz0, nm, hl1, hn1⟩
      · exact Or.inl h
      · obtain ⟨c6, hc6, hcl6⟩ := Cond.classLink_spec hown hl1 e.platform hpl
        obtain ⟨a8, b8, h1, h2, h3⟩ := hn1
        cases Option.some.inj (h1.symm.trans hcl)
        cases Option.some.inj (h2.symm.trans hc6)
        exact Or.inr ⟨hz0, _, hcl6, h3⟩) hx (Or.inr ⟨h0, c4, hcl5, hasg⟩)
  obtain ⟨t, a1, b1⟩ := kk (T.setVm vm') hT X'
  exact ⟨t, st.trans a1, b1⟩
end Rows
section Ends
variable {p : Program} {l : Launch} {e : Env} {R : Room} {s : State} {m : MethodId} {args : Array Value} {below : List Frame} {meth : Method} {c : Code} {H : Heap} {locs : List Loc} {cells slots : Nat} {Q : State → Prop}
variable {mc ms : Nat} {free : Addr → Prop} {A0 A1 : Nat → Prop} {H0 : Heap} {a : Array Value} {ls : Array Slot} {st0 rest : List Value}
variable {Qc : Array Value → State → Outcome → State → Prop} {XC : String → State → State → Prop}
/-- what a body that may throw owes at its end -/
def vx_MQ (below : List Frame) (Qc : Array Value → State → Outcome → State → Prop) (XC : String → State → State → Prop) (a : Array Value) (s : State) (mc ms : Nat) (free : Addr → Prop) : State → Prop := fun t =>
  ∃ o, t.status = .running ∧ Ended t below o ∧ vx_Q Qc XC mc ms free a s o t
theorem vx_ret {g : JFrame} {mc ms : Nat} (k : W p l e R s m args below meth c H locs cells slots (MQ below Qc args s mc ms free) g) : W p l e R s m args below meth c H locs cells slots (vx_MQ below Qc XC args s mc ms free) g := by
  intro T hT X
  obtain ⟨t, a1, o, b1, b2, b3, b4⟩ := k T hT X
  exact ⟨t, a1, o, b1, b2, Or.inl ⟨b3, b4⟩⟩
/-- not caught here: it goes on to the caller -/
theorem vx_widen {g : JFrame} {q : Addr} {k n : Nat} (h1 : cells ≤ k) (h2 : slots ≤ n) (kk : vx_W p l e R s m args below meth c H locs k n Q g q) : vx_W p l e R s m args below meth c H locs cells slots Q g q := fun T hT X => kk T hT (stand_widen X h1 h2)
theorem vx_out {pc : Nat} {E : String} {ce : Cell} {q : Addr} {mc ms : Nat} (hout : ∀ x ∈ c.exceptionTable.toList, covers x pc = false) (hlocks : meth.locks = false) (hcell : H[q]? = some ce) (hv : ce.vm = .none) (hcl : s.vm.findClass E = some ce.cls)
    (hx : ∀ t : State, t.heap = H → s.vm.Alike t.vm → XC E s t) (hf : ∀ z ∈ locs, free z.base) (hc : cells ≤ mc) (hs : slots ≤ ms) :
    vx_W p l e R s m args below meth c H locs cells slots (vx_MQ below Qc XC args s mc ms free) (F0 m pc ls rest) q := by
  intro T hT X
  obtain ⟨st1, hrun, hend, hW, hsm⟩ := X.leaveThrown q (g := F0 m pc ls rest) rfl rfl rfl hout hlocks
  have hcell9 : (T.setFrames (.throwing q :: below)).heap[q]? = some ce := by
    show T.heap[q]? = some ce
    rw [hT]; exact hcell
  exact ⟨_, st1, .threw q, hrun, hend, Or.inr ⟨q, rfl, E, ce, locs, hx _ hT hW.alike, hcell9, hv, hcl, hW, hsm.mono hc hs, hf⟩⟩
theorem vx_frame {U : State} {k n : Nat} (h : s.sameButNew ({ U with vm := s.vm } : State) locs k n) : s.heap.size ≤ U.heap.size ∧ ∀ q : Nat, q < s.heap.size → (∀ z ∈ locs, z.base ≠ q) → U.heap[q]? = s.heap[q]? := by
  obtain ⟨-, h2, -, -, -, h6⟩ := h
  refine ⟨h2, fun q hq hz => ?_⟩
  obtain ⟨c9, e1, e2, e3, e4⟩ := h6 q _ (Array.getElem?_eq_getElem hq)
  have hs : c9.slots = (s.heap[q]).slots := Array.ext_getElem? fun i => e4 i fun hm => hz _ hm rfl
  have h9 : c9 = s.heap[q] := by
    rw [hs] at e2
    exact e2
  have e5 : U.heap[q]? = some c9 := e1
  rw [e5, h9, Array.getElem?_eq_getElem hq]
/-- the words of a throw but the four that speak of the heap -/
def vx_no (w : Cond) : Bool := decide (w ≠ .isRef (.static Bundle.tN "UNASSIGNED_STACK" Bundle.steD)) && decide (w ≠ .isRef (.static Bundle.tN "SUPPRESSED_SENTINEL" Bundle.listD)) && decide (w ≠ .laysStatic Bundle.tN "UNASSIGNED_STACK" Bundle.steD) && decide (w ≠ .laysStatic Bundle.tN "SUPPRESSED_SENTINEL" Bundle.listD)
def vx_at0 (own : String) (ic : Nat) (X : String) (names : List String) : List Cond := (Bundle.ownAtoms0 own ic X names).filter vx_no
def vx_atS (own : String) (ic : Nat) (X : String) (names : List String) : List Cond := (Bundle.ownAtoms own ic X names).filter vx_no
/-- a word that the tables alone decide, or a good one -/
def vx_ot (w : Cond) : Bool := w.onTables || goodWord w
theorem vx_ot_at {args a' : Array Value} {s U : State} {w : Cond} (hW : s.WarmedH U.vm) (hvm : s.vm = U.vm) (hg : vx_ot w = true) (h : w.before args s = true) : w.before a' U = true := by
  simp only [vx_ot, Bool.or_eq_true] at hg
  rcases hg with hg | hg
  · exact va_tabs hg hvm h
  · exact word_at hW (good_of_word hg) h
/-- a list's words: the good ones out of the method's own list, the others by premises of their own -/
theorem vx_hat {args : Array Value} {s : State} {L B : List Cond} (h1 : ∀ w ∈ L.filter goodWord, w.before args s = true) (h2 : ∀ w ∈ L.filter (fun w => !goodWord w), w ∈ B) (h3 : ∀ w ∈ B, w.before args s = true) : ∀ w ∈ L, w.before args s = true := by
  intro w hw
  by_cases g : goodWord w = true
  · exact h1 w (List.mem_filter.mpr ⟨hw, g⟩)
  · refine h3 w (h2 w (List.mem_filter.mpr ⟨hw, ?_⟩))
    show (!goodWord w) = true
    cases hgw : goodWord w
    · rfl
    · exact absurd hgw g
theorem vx_c {args : Array Value} {s : State} {w : Cond} {B : List Cond} (h : w.before args s = true) (t : ∀ w ∈ B, w.before args s = true) : ∀ w' ∈ w :: B, w'.before args s = true := fun w' h' => (List.mem_cons.mp h').elim (fun e => by rw [e]; exact h) (t w')
theorem vx_n {args : Array Value} {s : State} : ∀ w ∈ ([] : List Cond), w.before args s = true := fun _ h => nomatch h
theorem vx_own {args : Array Value} {s : State} {L : List Cond} (h1 : ∀ w ∈ L.filter vx_no, w.before args s = true)
    (hU : (Cond.isRef (.static Bundle.tN "UNASSIGNED_STACK" Bundle.steD)).before args s = true) (hN : (Cond.isRef (.static Bundle.tN "SUPPRESSED_SENTINEL" Bundle.listD)).before args s = true)
    (lU : (Cond.laysStatic Bundle.tN "UNASSIGNED_STACK" Bundle.steD).before args s = true) (lN : (Cond.laysStatic Bundle.tN "SUPPRESSED_SENTINEL" Bundle.listD).before args s = true) : ∀ w ∈ L, w.before args s = true := by
  intro w hw
  by_cases e1 : w = .isRef (.static Bundle.tN "UNASSIGNED_STACK" Bundle.steD)
  · rw [e1]; exact hU
  · by_cases e2 : w = .isRef (.static Bundle.tN "SUPPRESSED_SENTINEL" Bundle.listD)
    · rw [e2]; exact hN
    · by_cases e3 : w = .laysStatic Bundle.tN "UNASSIGNED_STACK" Bundle.steD
      · rw [e3]; exact lU
      · by_cases e4 : w = .laysStatic Bundle.tN "SUPPRESSED_SENTINEL" Bundle.listD
        · rw [e4]; exact lN
        · exact h1 w (List.mem_filter.mpr ⟨hw, by unfold vx_no; rw [decide_eq_true e1, decide_eq_true e2, decide_eq_true e3, decide_eq_true e4]; rfl⟩)
/-- where a static field lies, its class's statics cell in H -/
def vx_L (C n d : String) (A : Nat → Prop) (U : State) (H : Heap) : Prop := ∃ (c : ClassId) (k : Class) (i : Nat) (f : Field) (a : Nat) (cell : Cell), U.vm.findClass C = some c ∧ U.fieldFound? C n d = some (c, k, i, f) ∧ f.isStatic = true ∧ k.statics = some a ∧ H[a]? = some cell ∧ cell.vm.isStatics = true ∧ cell.cls = c ∧ f.slot < cell.slots.size ∧ k.staticTypes[f.slot]? = some f.type ∧ ¬ A a
theorem vx_L.moved {C n d : String} {A : Nat → Prop} {u U : State} {H : Heap} (hvm : u.vm.Alike U.vm) (h : vx_L C n d A u H) : vx_L C n d A U H := by
  obtain ⟨c, k, i, f, a, cell, h1, h2, h3, h4, h5, h6, h7, h8, h9, h10⟩ := h
  obtain ⟨k', hi', he⟩ := State.fieldFound?_setVm hvm h2
  exact ⟨c, k', i, f, a, cell, by rw [hvm.findClass]; exact h1, hi', h3, by rw [he]; exact h4, h5, h6, h7, h8, by rw [he]; exact h9, h10⟩
theorem vx_L.kept {C n d : String} {A : Nat → Prop} {U : State} {H H1 : Heap} (h : vx_L C n d A U H) (hq : ∀ a : Nat, a < H.size → ¬ A a → H1[a]? = H[a]?) : vx_L C n d A U H1 := by
  obtain ⟨c, k, i, f, a, cell, h1, h2, h3, h4, h5, h6, h7, h8, h9, h10⟩ := h
  exact ⟨c, k, i, f, a, cell, h1, h2, h3, h4, by rw [hq a (Array.getElem?_eq_some_iff.mp h5).1 h10]; exact h5, h6, h7, h8, h9, h10⟩
theorem vx_L.narrow {C n d : String} {A B : Nat → Prop} {U : State} {H : Heap} (h : vx_L C n d A U H) (hAB : ∀ q, B q → A q) : vx_L C n d B U H := by
  obtain ⟨c, k, i, f, a, cell, h1, h2, h3, h4, h5, h6, h7, h8, h9, h10⟩ := h
  exact ⟨c, k, i, f, a, cell, h1, h2, h3, h4, h5, h6, h7, h8, h9, fun z => h10 (hAB _ z)⟩
theorem vx_L.word {C n d : String} {A : Nat → Prop} {s : State} {args : Array Value} (h : vx_L C n d A s s.heap) : (Cond.laysStatic C n d).before args s = true := by
  obtain ⟨c, k, i, f, a, cell, h1, h2, h3, h4, h5, h6, h7, h8, h9, -⟩ := h
  show (Cond.laysStatic C n d).holds args s none s [] = true
  exact Cond.laysStatic_of h1 h2 h3 h4 h5 h6 h7 h8 h9
/-- .. and what it holds: null or some reference -/
def vx_Zq (C n d : String) (A : Nat → Prop) (U : State) (H : Heap) : Prop := va_Zq C n d A U H ∧ vx_L C n d A U H
theorem vx_Zq.moved {C n d : String} {A : Nat → Prop} {u U : State} {H : Heap} (hvm : u.vm.Alike U.vm) (h : vx_Zq C n d A u H) : vx_Zq C n d A U H := ⟨va_Zq.moved hvm h.1, vx_L.moved hvm h.2⟩
theorem vx_Zq.kept {C n d : String} {A : Nat → Prop} {U : State} {H H1 : Heap} (h : vx_Zq C n d A U H) (hq : ∀ a : Nat, a < H.size → ¬ A a → H1[a]? = H[a]?) : vx_Zq C n d A U H1 := ⟨va_Zq.kept h.1 hq, vx_L.kept h.2 hq⟩
theorem vx_Zq.narrow {C n d : String} {A B : Nat → Prop} {U : State} {H : Heap} (h : vx_Zq C n d A U H) (hAB : ∀ q, B q → A q) : vx_Zq C n d B U H := ⟨va_Zq.narrow h.1 hAB, vx_L.narrow h.2 hAB⟩
theorem vx_Zqof {args : Array Value} {s : State} {C n d : String} {A : Nat → Prop} (hl : (Cond.laysStatic C n d).before args s = true) (hini : (Cond.initialized C).before args s = true) (h : (Cond.isRef (.static C n d)).before args s = true) (hA : ∀ a : Nat, a < s.heap.size → ¬ A a) : vx_Zq C n d A s s.heap := by
  refine ⟨va_Zqof hl hini h hA, ?_⟩
  obtain ⟨c, k, i, f, a, cell, h1, h2, h3, h4, h5, h6, h7, h8, h9⟩ := Cond.laysStatic_spec hl
  exact ⟨c, k, i, f, a, cell, h1, h2, h3, h4, h5, h6, h7, h8, h9, hA a (Array.getElem?_eq_some_iff.mp h5).1⟩
theorem vx_isRef {C n d : String} {v : Value} {A : Nat → Prop} {s : State} {args : Array Value} (h : va_Z C n d v A s s.heap) (hv : v.isRef = true) : (Cond.isRef (.static C n d)).before args s = true := by
  obtain ⟨cf, kf, fi, f, a, cell, h1, h2, h3, h4, h5, h6, h7, -⟩ := h
  have he : (Term.static C n d).eval args s none [] s = some v := by
    simp [Term.eval, State.fieldNamed?, h1, h2, h4, h5, h6, h7]
  simp only [Cond.before, Cond.holds, Cond.value, he]
  cases v <;> simp_all [Value.isRef]
theorem vx_isRefq {C n d : String} {A : Nat → Prop} {s : State} {args : Array Value} (h : va_Zq C n d A s s.heap) : (Cond.isRef (.static C n d)).before args s = true := by
  rcases h with h | ⟨t, h⟩
  · exact vx_isRef h rfl
  · exact vx_isRef h rfl
/-- the same frame, seen from here: as if the method were called anew in this heap -/
theorem vx_rebase {T : State} (X : Stand p l e R s m args below meth c T locs cells slots) {R' : Room} (hf : R'.frames ≤ R.frames) (hl : R'.locals ≤ R.locals) (hc : cells + R'.cells ≤ R.cells) (hs : slots + R'.slots ≤ R.slots) :
    Stand p l e R' ((T.setVm s.vm).setFrames (.invoking m args :: below)) m args below meth c T [] 0 0 := by
  have htop : (T.setVm s.vm).topJava?.isSome := X.here.top
  have hF : ((T.setVm s.vm).setFrames (.invoking m args :: below)).frames = .invoking m args :: below := State.frames_setFrames _ (State.cur_lt_of_top htop)
  obtain ⟨g₀, hg0⟩ := Option.isSome_iff_exists.mp htop
  obtain ⟨r, hr⟩ := State.topJava?_eq_some.mp hg0
  have hl9 : e.platform.stackLimits (T.setVm s.vm).me = e.platform.stackLimits s.me := X.limits
  have hb9 : (T.setVm s.vm).me.stackBytes = s.me.stackBytes := X.bytes
  refine ⟨X.admits, X.cas, X.clock, hF, ?_, X.hears, X.method, X.code, X.here, X.tail, X.warmed, ?_, ?_, ?_⟩
  · have h := X.room
    have hU : ((T.setVm s.vm).setFrames (.invoking m args :: below)).localsInUse = s.localsInUse := by
      rw [State.localsInUse_invoking hF (meth := meth) (c := c) X.method X.code, State.localsInUse_invoking X.frames X.method X.code]
    simp only [State.hasRoom, Bool.and_eq_true, decide_eq_true_eq] at h ⊢
    obtain ⟨⟨⟨⟨h1, h2, h3, h4, h5, h6⟩, h7⟩, h8⟩, h9⟩ := h
    rw [X.frames, List.length_cons] at h2 h3
    have q1 := X.heapSize
    have q2 := X.used
    simp only [hF, hU, List.length_cons, State.stackLimits_setFrames, State.stackBytes_setFrames, hl9, hb9]
    refine ⟨⟨⟨⟨by omega, by omega, by omega, by omega, by omega, h6⟩, ?_⟩, ?_⟩, X.book⟩
    · show T.heap.size + R'.cells ≤ e.platform.maxCells
      omega
    · show T.slotsUsed + R'.slots ≤ e.platform.maxSlots
      omega
  · rw [State.stackLimits_setFrames]; rfl
  · rw [State.stackBytes_setFrames]; rfl
  · refine ⟨?_, Nat.le_refl _, Nat.le_refl _, ?_, ?_, fun a c9 h9 => ⟨c9, h9, rfl, rfl, fun _ _ => rfl⟩⟩
    · obtain ⟨t, ht, -⟩ := State.frames_cons hr
      show T.setVm s.vm = { ((T.setVm s.vm).setFrames (.invoking m args :: below)).setFrames (T.setVm s.vm).frames with heap := T.heap, slotsUsed := T.slotsUsed }
      rw [State.setFrames_setFrames, State.setFrames_self ht]
      rfl
    · show T.slotsUsed = T.slotsUsed + ((T.heap.toList.drop T.heap.size).map (·.slots.size)).sum
      rw [List.drop_eq_nil_of_le (Nat.le_of_eq Array.length_toList)]
      rfl
    · show ((T.heap.toList.drop T.heap.size).map (·.slots.size)).sum ≤ 0
      rw [List.drop_eq_nil_of_le (Nat.le_of_eq Array.length_toList)]
      exact Nat.le_refl _
/-- 'throw new E()': new; dup; invokespecial; athrow -/
theorem vx_throw0 {cc : ByteArray} {pc : Nat} (hexec : p.tables.exec = Jvm.exec) (hb : c.code = cc) (hl : l.stackTraces = false) {own cls : String} {names : List String} {ik ic mc ms : Nat} {A : Nat → Prop}
    (hown : s.vm.findClass own = some m.cls) (hcls : Bundle.fit cls = true) (hnames : ∀ n ∈ names, Bundle.fit n = true)
    (hk : (Cond.classLink own ik cls).before args s = true) (hini : (Cond.initialized cls).before args s = true) (hat : ∀ w ∈ vx_at0 own ic cls names, w.before args s = true)
    (hgood : ∀ w ∈ Cond.classLink own ik cls :: Cond.initialized cls :: vx_at0 own ic cls names, vx_ot w = true)
    (hU : vx_Zq Bundle.tN "UNASSIGNED_STACK" Bundle.steD A s s.heap) (hN : vx_Zq Bundle.tN "SUPPRESSED_SENTINEL" Bundle.listD A s s.heap) (hS : va_S A s.heap H locs) (hsize : ls.size = c.maxLocals)
    (d0 : decode cc pc = .ok (.new ik, 3)) (d3 : decode cc (pc + 3) = .ok (.dup, 1)) (d4 : decode cc (pc + 4) = .ok (.invokespecial ic, 3)) (d7 : decode cc (pc + 7) = .ok (.athrow, 1))
    (hout : ∀ x ∈ c.exceptionTable.toList, covers x (pc + 7) = false)
    (hRframes : names.length + 3 < R.frames) (hRlocals : (rest.map fun v => v.category).sum + (13 * (names.length + 1) + 42) ≤ R.locals) (hRcells : cells + 1 ≤ R.cells) (hRslots : slots + 6 ≤ R.slots) (hlocks : meth.locks = false)
    (hx : ∀ t : State, s.vm.Alike t.vm → H.size ≤ t.heap.size → (∀ q : Nat, q < H.size → t.heap[q]? = H[q]?) → XC cls s t)
    (hf : ∀ z ∈ locs, free z.base) (hc : cells + 1 ≤ mc) (hs : slots + 6 ≤ ms) :
    W p l e R s m args below meth c H locs cells slots (vx_MQ below Qc XC args s mc ms free) (F0 m pc ls rest) := by
  intro T hT X
  have htr : e.platform.stackTraces = false := (show e.platform.stackTraces = l.stackTraces by rw [X.admits.platform]).trans hl
  have Y := vx_rebase X (R' := { frames := R.frames, locals := R.locals, cells := 1, slots := 6 }) (Nat.le_refl _) (Nat.le_refl _) hRcells hRslots
  obtain ⟨s', hA⟩ : ∃ z, z = (T.setVm s.vm).setFrames (.invoking m args :: below) := ⟨_, rfl⟩
  rw [← hA] at Y
  have hvm : s'.vm = s.vm := by rw [hA]; rfl
  have hhp : s'.heap = H := by rw [hA]; exact hT
  have hW0 : s.WarmedH s'.vm := by rw [hvm]; exact State.WarmedH.refl s
  have hat' : ∀ w ∈ vx_at0 own ic cls names, w.before args s' = true := fun w hw => vx_ot_at hW0 hvm.symm (hgood w (List.mem_cons_of_mem _ (List.mem_cons_of_mem _ hw))) (hat w hw)
  have hk' : (Cond.classLink own ik cls).before args s' = true := vx_ot_at hW0 hvm.symm (hgood _ List.mem_cons_self) hk
  have hini' : (Cond.initialized cls).before args s' = true := vx_ot_at hW0 hvm.symm (hgood _ (List.mem_cons_of_mem _ List.mem_cons_self)) hini
  have hU' : vx_Zq Bundle.tN "UNASSIGNED_STACK" Bundle.steD A s' s'.heap := by rw [hhp]; exact vx_Zq.moved hW0.alike (hU.kept hS.2.1)
  have hN' : vx_Zq Bundle.tN "SUPPRESSED_SENTINEL" Bundle.listD A s' s'.heap := by rw [hhp]; exact vx_Zq.moved hW0.alike (hN.kept hS.2.1)
  have h : ∀ w ∈ Bundle.ownAtoms0 own ic cls names, w.before args s' = true := vx_own hat' (vx_isRefq hU'.1) (vx_isRefq hN'.1) hU'.2.word hN'.2.word
  have hown' : s'.vm.findClass own = some m.cls := by rw [hvm]; exact hown
  have hins : (Cond.instantiable cls 6).before args s' = true := h _ (by simp [Bundle.ownAtoms0])
  obtain ⟨vm₁, cX, kX, hfX, hkX, -, -, X₁, st1⟩ := Y.newCold hexec (own := own) (C := cls) (index := ik) (n := 6) hown' hk' hins hini'
    (g := F0 m pc ls rest) rfl (by rw [hb]; exact d0) (Nat.le_refl _) (Nat.le_refl _)
  generalize hT1 : (T.setVm vm₁).pushCell { cls := cX, slots := kX.instanceTypes.map defaultValue, vm := .none } = T1 at X₁ st1
  have hcat : (Value.ref T.heap.size).category = 1 := rfl
  have hcellA : T1.heap[T.heap.size]? = some (freshCell cX kX) := by rw [← hT1]; exact State.heap_pushCell_size _ _
  have d3' : decode c.code (pc + 3) = .ok (.dup, 1) := by rw [hb]; exact d3
  obtain ⟨U, hsteps, hrun, hend, hW, hsame, ce, hce, hO⟩ := X₁.ctorThrow0 hexec htr (own := own) (cls := cls) (names := names) (ic := ic) hown' hcls hnames h (fun x hx => nomatch hx) hfX hkX hcellA (by rw [hhp, hT]; exact Nat.le_refl _)
    (g := { method := m, pc := pc + 4, locals := ls, stack := .ref T.heap.size :: .ref T.heap.size :: rest, locked := none }) rfl hsize rfl rfl (rest := rest) rfl
    (by rw [hb]; exact d4) (by rw [hb]; exact d7) hout hRframes (by simp only [List.map_cons, List.sum_cons, hcat]; omega) hlocks
  obtain ⟨f1, f2⟩ := vx_frame hsame
  rw [hhp] at f1 f2
  have hWs : s.WarmedH U.vm := State.WarmedH.trans hW0 hW
  have hcl : s.vm.findClass cls = some ce.cls := by
    have h9 := hO.cls
    rw [hvm] at h9
    exact h9
  have hall : s.sameButNew ({ U with vm := s.vm } : State) locs mc ms := by
    subst hA
    obtain ⟨e1, e2⟩ := hsame
    rw [State.setFrames_setFrames] at e1
    have h2 : (T.setVm s.vm).sameButNew ({ U with vm := s.vm } : State) [] (0 + 1) (0 + 6) := ⟨e1, e2⟩
    have h3 := X.same.trans h2
    rw [List.append_nil] at h3
    exact h3.mono hc hs
  refine ⟨U, ?_, .threw T.heap.size, hrun, hend, Or.inr ⟨T.heap.size, rfl, cls, ce, locs, hx U hWs.alike f1 (fun q hq => f2 q hq (fun z hz => nomatch hz)), hce, hO.vm, hcl, hWs, hall, hf⟩⟩
  refine st1 _ ?_
  show Steps p.tables e below (T1.setTop { method := m, pc := pc + 3, locals := ls, stack := .ref T.heap.size :: rest, locked := none }) _
  jvm_step X₁.here [X₁.here.top, hexec, d3', Value.category]
  exact hsteps
/-- 'throw new E("text")': new; dup; ldc; invokespecial; athrow -/
theorem vx_throwS {cc : ByteArray} {pc : Nat} (hexec : p.tables.exec = Jvm.exec) (hb : c.code = cc) (hl : l.stackTraces = false) {own cls text : String} {names : List String} {ik is ic mc ms sa : Nat} {A : Nat → Prop}
    (hown : s.vm.findClass own = some m.cls) (hcls : Bundle.fit cls = true) (hnames : ∀ n ∈ names, Bundle.fit n = true)
    (hk : (Cond.classLink own ik cls).before args s = true) (hini : (Cond.initialized cls).before args s = true) (hstr : vk_R own is text sa s) (hat : ∀ w ∈ vx_atS own ic cls names, w.before args s = true)
    (hgood : ∀ w ∈ Cond.classLink own ik cls :: Cond.initialized cls :: vx_atS own ic cls names, vx_ot w = true)
    (hU : vx_Zq Bundle.tN "UNASSIGNED_STACK" Bundle.steD A s s.heap) (hN : vx_Zq Bundle.tN "SUPPRESSED_SENTINEL" Bundle.listD A s s.heap) (hS : va_S A s.heap H locs) (hsize : ls.size = c.maxLocals)
    (d0 : decode cc pc = .ok (.new ik, 3)) (d3 : decode cc (pc + 3) = .ok (.dup, 1)) (d4 : decode cc (pc + 4) = .ok (.ldc is, 2)) (d6 : decode cc (pc + 6) = .ok (.invokespecial ic, 3)) (d9 : decode cc (pc + 9) = .ok (.athrow, 1))
    (hout : ∀ x ∈ c.exceptionTable.toList, covers x (pc + 9) = false)
    (hRframes : names.length + 3 < R.frames) (hRlocals : (rest.map fun v => v.category).sum + (13 * (names.length + 1) + 43) ≤ R.locals) (hRcells : cells + 1 ≤ R.cells) (hRslots : slots + 6 ≤ R.slots) (hlocks : meth.locks = false)
    (hx : ∀ t : State, s.vm.Alike t.vm → H.size ≤ t.heap.size → (∀ q : Nat, q < H.size → t.heap[q]? = H[q]?) → XC cls s t)
    (hf : ∀ z ∈ locs, free z.base) (hc : cells + 1 ≤ mc) (hs : slots + 6 ≤ ms) :
    W p l e R s m args below meth c H locs cells slots (vx_MQ below Qc XC args s mc ms free) (F0 m pc ls rest) := by
  intro T hT X
  have htr : e.platform.stackTraces = false := (show e.platform.stackTraces = l.stackTraces by rw [X.admits.platform]).trans hl
  have Y := vx_rebase X (R' := { frames := R.frames, locals := R.locals, cells := 1, slots := 6 }) (Nat.le_refl _) (Nat.le_refl _) hRcells hRslots
  obtain ⟨s', hA⟩ : ∃ z, z = (T.setVm s.vm).setFrames (.invoking m args :: below) := ⟨_, rfl⟩
  rw [← hA] at Y
  have hvm : s'.vm = s.vm := by rw [hA]; rfl
  have hhp : s'.heap = H := by rw [hA]; exact hT
  have hW0 : s.WarmedH s'.vm := by rw [hvm]; exact State.WarmedH.refl s
  have hat' : ∀ w ∈ vx_atS own ic cls names, w.before args s' = true := fun w hw => vx_ot_at hW0 hvm.symm (hgood w (List.mem_cons_of_mem _ (List.mem_cons_of_mem _ hw))) (hat w hw)
  have hk' : (Cond.classLink own ik cls).before args s' = true := vx_ot_at hW0 hvm.symm (hgood _ List.mem_cons_self) hk
  have hini' : (Cond.initialized cls).before args s' = true := vx_ot_at hW0 hvm.symm (hgood _ (List.mem_cons_of_mem _ List.mem_cons_self)) hini
  have hU' : vx_Zq Bundle.tN "UNASSIGNED_STACK" Bundle.steD A s' s'.heap := by rw [hhp]; exact vx_Zq.moved hW0.alike (hU.kept hS.2.1)
  have hN' : vx_Zq Bundle.tN "SUPPRESSED_SENTINEL" Bundle.listD A s' s'.heap := by rw [hhp]; exact vx_Zq.moved hW0.alike (hN.kept hS.2.1)
  have h : ∀ w ∈ Bundle.ownAtoms own ic cls names, w.before args s' = true := vx_own hat' (vx_isRefq hU'.1) (vx_isRefq hN'.1) hU'.2.word hN'.2.word
  have hown' : s'.vm.findClass own = some m.cls := by rw [hvm]; exact hown
  have hins : (Cond.instantiable cls 6).before args s' = true := h _ (by simp [Bundle.ownAtoms])
  obtain ⟨vm₁, cX, kX, hfX, hkX, -, -, X₁, st1⟩ := Y.newCold hexec (own := own) (C := cls) (index := ik) (n := 6) hown' hk' hins hini'
    (g := F0 m pc ls rest) rfl (by rw [hb]; exact d0) (Nat.le_refl _) (Nat.le_refl _)
  generalize hT1 : (T.setVm vm₁).pushCell { cls := cX, slots := kX.instanceTypes.map defaultValue, vm := .none } = T1 at X₁ st1
  have hcat : (Value.ref T.heap.size).category = 1 := rfl
  have hcellA : T1.heap[T.heap.size]? = some (freshCell cX kX) := by rw [← hT1]; exact State.heap_pushCell_size _ _
  have d3' : decode c.code (pc + 3) = .ok (.dup, 1) := by rw [hb]; exact d3
  have d4' : decode c.code (pc + 4) = .ok (.ldc is, 2) := by rw [hb]; exact d4
  have hstr' : vk_R own is text sa s' := vk_R.warm hW0 hstr
  obtain ⟨U, hsteps, hrun, hend, hW, hsame, ce, hce, hO⟩ := X₁.ctorThrowS hexec htr (own := own) (cls := cls) (names := names) (ic := ic) hown' hcls hnames h (fun x hx => nomatch hx) hfX hkX hcellA (by rw [hhp, hT]; exact Nat.le_refl _) (msg := .ref sa) rfl
    (g := { method := m, pc := pc + 6, locals := ls, stack := .ref sa :: .ref T.heap.size :: .ref T.heap.size :: rest, locked := none }) rfl hsize rfl rfl (rest := rest) rfl
    (by rw [hb]; exact d6) (by rw [hb]; exact d9) hout hRframes (by simp only [List.map_cons, List.sum_cons, hcat]; omega) hlocks
  obtain ⟨f1, f2⟩ := vx_frame hsame
  rw [hhp] at f1 f2
  have hWs : s.WarmedH U.vm := State.WarmedH.trans hW0 hW
  have hcl : s.vm.findClass cls = some ce.cls := by
    have h9 := hO.cls
    rw [hvm] at h9
    exact h9
  have hall : s.sameButNew ({ U with vm := s.vm } : State) locs mc ms := by
    subst hA
    obtain ⟨e1, e2⟩ := hsame
    rw [State.setFrames_setFrames] at e1
    have h2 : (T.setVm s.vm).sameButNew ({ U with vm := s.vm } : State) [] (0 + 1) (0 + 6) := ⟨e1, e2⟩
    have h3 := X.same.trans h2
    rw [List.append_nil] at h3
    exact h3.mono hc hs
  refine ⟨U, ?_, .threw T.heap.size, hrun, hend, Or.inr ⟨T.heap.size, rfl, cls, ce, locs, hx U hWs.alike f1 (fun q hq => f2 q hq (fun z hz => nomatch hz)), hce, hO.vm, hcl, hWs, hall, hf⟩⟩
  refine st1 _ ?_
  show Steps p.tables e below (T1.setTop { method := m, pc := pc + 3, locals := ls, stack := .ref T.heap.size :: rest, locked := none }) _
  jvm_step X₁.here [X₁.here.top, hexec, d3', Value.category]
  exact X₁.ldcString hexec (own := own) (text := text) (index := is) (a := sa) hown' hstr'.1 hstr'.2
    (g := { method := m, pc := pc + 4, locals := ls, stack := .ref T.heap.size :: .ref T.heap.size :: rest, locked := none }) rfl d4' _ hsteps
/-- 'throw new E("text")', the text by a wide index -/
theorem vx_throwSW {cc : ByteArray} {pc : Nat} (hexec : p.tables.exec = Jvm.exec) (hb : c.code = cc) (hl : l.stackTraces = false) {own cls text : String} {names : List String} {ik is ic mc ms sa : Nat} {A : Nat → Prop}
    (hown : s.vm.findClass own = some m.cls) (hcls : Bundle.fit cls = true) (hnames : ∀ n ∈ names, Bundle.fit n = true)
    (hk : (Cond.classLink own ik cls).before args s = true) (hini : (Cond.initialized cls).before args s = true) (hstr : vk_R own is text sa s) (hat : ∀ w ∈ vx_atS own ic cls names, w.before args s = true)
    (hgood : ∀ w ∈ Cond.classLink own ik cls :: Cond.initialized cls :: vx_atS own ic cls names, vx_ot w = true)
    (hU : vx_Zq Bundle.tN "UNASSIGNED_STACK" Bundle.steD A s s.heap) (hN : vx_Zq Bundle.tN "SUPPRESSED_SENTINEL" Bundle.listD A s s.heap) (hS : va_S A s.heap H locs) (hsize : ls.size = c.maxLocals)
    (d0 : decode cc pc = .ok (.new ik, 3)) (d3 : decode cc (pc + 3) = .ok (.dup, 1)) (d4 : decode cc (pc + 4) = .ok (.ldc_w is, 3)) (d7 : decode cc (pc + 7) = .ok (.invokespecial ic, 3)) (d10 : decode cc (pc + 10) = .ok (.athrow, 1))
    (hout : ∀ x ∈ c.exceptionTable.toList, covers x (pc + 10) = false)
    (hRframes : names.length + 3 < R.frames) (hRlocals : (rest.map fun v => v.category).sum + (13 * (names.length + 1) + 43) ≤ R.locals) (hRcells : cells + 1 ≤ R.cells) (hRslots : slots + 6 ≤ R.slots) (hlocks : meth.locks = false)
    (hx : ∀ t : State, s.vm.Alike t.vm → H.size ≤ t.heap.size → (∀ q : Nat, q < H.size → t.heap[q]? = H[q]?) → XC cls s t)
    (hf : ∀ z ∈ locs, free z.base) (hc : cells + 1 ≤ mc) (hs : slots + 6 ≤ ms) :
    W p l e R s m args below meth c H locs cells slots (vx_MQ below Qc XC args s mc ms free) (F0 m pc ls rest) := by
  intro T hT X
  have htr : e.platform.stackTraces = false := (show e.platform.stackTraces = l.stackTraces by rw [X.admits.platform]).trans hl
  have Y := vx_rebase X (R' := { frames := R.frames, locals := R.locals, cells := 1, slots := 6 }) (Nat.le_refl _) (Nat.le_refl _) hRcells hRslots
  obtain ⟨s', hA⟩ : ∃ z, z = (T.setVm s.vm).setFrames (.invoking m args :: below) := ⟨_, rfl⟩
  rw [← hA] at Y
  have hvm : s'.vm = s.vm := by rw [hA]; rfl
  have hhp : s'.heap = H := by rw [hA]; exact hT
  have hW0 : s.WarmedH s'.vm := by rw [hvm]; exact State.WarmedH.refl s
  have hat' : ∀ w ∈ vx_atS own ic cls names, w.before args s' = true := fun w hw => vx_ot_at hW0 hvm.symm (hgood w (List.mem_cons_of_mem _ (List.mem_cons_of_mem _ hw))) (hat w hw)
  have hk' : (Cond.classLink own ik cls).before args s' = true := vx_ot_at hW0 hvm.symm (hgood _ List.mem_cons_self) hk
  have hini' : (Cond.initialized cls).before args s' = true := vx_ot_at hW0 hvm.symm (hgood _ (List.mem_cons_of_mem _ List.mem_cons_self)) hini
  have hU' : vx_Zq Bundle.tN "UNASSIGNED_STACK" Bundle.steD A s' s'.heap := by rw [hhp]; exact vx_Zq.moved hW0.alike (hU.kept hS.2.1)
  have hN' : vx_Zq Bundle.tN "SUPPRESSED_SENTINEL" Bundle.listD A s' s'.heap := by rw [hhp]; exact vx_Zq.moved hW0.alike (hN.kept hS.2.1)
  have h : ∀ w ∈ Bundle.ownAtoms own ic cls names, w.before args s' = true := vx_own hat' (vx_isRefq hU'.1) (vx_isRefq hN'.1) hU'.2.word hN'.2.word
  have hown' : s'.vm.findClass own = some m.cls := by rw [hvm]; exact hown
  have hins : (Cond.instantiable cls 6).before args s' = true := h _ (by simp [Bundle.ownAtoms])
  obtain ⟨vm₁, cX, kX, hfX, hkX, -, -, X₁, st1⟩ := Y.newCold hexec (own := own) (C := cls) (index := ik) (n := 6) hown' hk' hins hini'
    (g := F0 m pc ls rest) rfl (by rw [hb]; exact d0) (Nat.le_refl _) (Nat.le_refl _)
  generalize hT1 : (T.setVm vm₁).pushCell { cls := cX, slots := kX.instanceTypes.map defaultValue, vm := .none } = T1 at X₁ st1
  have hcat : (Value.ref T.heap.size).category = 1 := rfl
  have hcellA : T1.heap[T.heap.size]? = some (freshCell cX kX) := by rw [← hT1]; exact State.heap_pushCell_size _ _
  have d3' : decode c.code (pc + 3) = .ok (.dup, 1) := by rw [hb]; exact d3
  have d4' : decode c.code (pc + 4) = .ok (.ldc_w is, 3) := by rw [hb]; exact d4
  have hstr' : vk_R own is text sa s' := vk_R.warm hW0 hstr
  obtain ⟨U, hsteps, hrun, hend, hW, hsame, ce, hce, hO⟩ := X₁.ctorThrowS hexec htr (own := own) (cls := cls) (names := names) (ic := ic) hown' hcls hnames h (fun x hx => nomatch hx) hfX hkX hcellA (by rw [hhp, hT]; exact Nat.le_refl _) (msg := .ref sa) rfl
    (g := { method := m, pc := pc + 7, locals := ls, stack := .ref sa :: .ref T.heap.size :: .ref T.heap.size :: rest, locked := none }) rfl hsize rfl rfl (rest := rest) rfl
    (by rw [hb]; exact d7) (by rw [hb]; exact d10) hout hRframes (by simp only [List.map_cons, List.sum_cons, hcat]; omega) hlocks
  obtain ⟨f1, f2⟩ := vx_frame hsame
  rw [hhp] at f1 f2
  have hWs : s.WarmedH U.vm := State.WarmedH.trans hW0 hW
  have hcl : s.vm.findClass cls = some ce.cls := by
    have h9 := hO.cls
    rw [hvm] at h9
    exact h9
  have hall : s.sameButNew ({ U with vm := s.vm } : State) locs mc ms := by
    subst hA
    obtain ⟨e1, e2⟩ := hsame
    rw [State.setFrames_setFrames] at e1
    have h2 : (T.setVm s.vm).sameButNew ({ U with vm := s.vm } : State) [] (0 + 1) (0 + 6) := ⟨e1, e2⟩
    have h3 := X.same.trans h2
    rw [List.append_nil] at h3
    exact h3.mono hc hs
  refine ⟨U, ?_, .threw T.heap.size, hrun, hend, Or.inr ⟨T.heap.size, rfl, cls, ce, locs, hx U hWs.alike f1 (fun q hq => f2 q hq (fun z hz => nomatch hz)), hce, hO.vm, hcl, hWs, hall, hf⟩⟩
  refine st1 _ ?_
  show Steps p.tables e below (T1.setTop { method := m, pc := pc + 3, locals := ls, stack := .ref T.heap.size :: rest, locked := none }) _
  jvm_step X₁.here [X₁.here.top, hexec, d3', Value.category]
  exact X₁.ldcStringW hexec (own := own) (text := text) (index := is) (a := sa) hown' hstr'.1 hstr'.2
    (g := { method := m, pc := pc + 4, locals := ls, stack := .ref T.heap.size :: .ref T.heap.size :: rest, locked := none }) rfl d4' _ hsteps
end Ends
section Bodies
variable {l : Launch}
theorem vx_ofW {y : MethodName} {ws ws' : List Cond} {rm : Room} {Pc : Array Value → State → Prop} {Qc : Array Value → State → Outcome → State → Prop} {XC : String → State → State → Prop} {mc ms : Nat} {free : Addr → Prop} {cc : ByteArray} {maxL : Nat} {ret : Option FieldType}
    (hy : plainName y.cls = true) (hw : ws = Cond.code y cc maxL ret :: ws')
    (body : ∀ p e s m args below meth c s₁, BodyLoose p l y (headSpec ws rm) cc maxL ret e s m args below meth c s₁ → c.maxLocals = maxL → (∀ x ∈ c.exceptionTable.toList, False) → Pc args s →
      W p l e (headSpec ws rm).room s m args below meth c s.heap [] 0 0 (vx_MQ below Qc XC args s mc ms free) (entryFrame m args maxL)) : vx_Met l y ws rm Pc Qc XC mc ms free := by
  refine MetFree.of_bodyS (code := cc) (maxLocals := maxL) (ret := ret) hy ?_ ?_
  · intro args s m h hn
    obtain ⟨meth, c, h1, h2, h3, h4, h5, h6, -, -⟩ := Cond.code_spec hn (atoms_spec (ws := ws) h _ (by rw [hw]; exact List.mem_cons_self))
    exact ⟨meth, c, h1, h2, h3, h4, h5, h6⟩
  · intro p e s m args below meth c s₁ B hml hP _
    have hh0 : s₁.heap = s.heap := by rw [B.state]; rfl
    have ht : ∀ x ∈ c.exceptionTable.toList, False := by
      obtain ⟨meth9, c9, h1, h2, -, -, -, -, h7, -⟩ := Cond.code_spec B.named (atoms_spec (ws := ws) B.pre _ (by rw [hw]; exact List.mem_cons_self))
      cases Option.some.inj (h1.symm.trans B.method)
      cases Option.some.inj (h2.symm.trans (Stand.of_body B).code)
      intro x hx
      rw [Array.isEmpty_iff.mp h7] at hx
      cases hx
    obtain ⟨t, a1, o, b1, b2, b3⟩ := body p e s m args below meth c s₁ B hml ht hP s₁ hh0 (Stand.of_body B)
    exact ⟨t, o, a1, b1, b2, b3⟩
/-- the table of a body with handlers -/
theorem vx_table {p : Program} {x y : MethodName} {S : Spec} {cc bytes : ByteArray} {maxL maxL' : Nat} {ret ret' : Option FieldType} {e : Env} {s s₁ : State} {m : MethodId} {args : Array Value} {below : List Frame} {meth : Method} {c : Code} {hh : List (Nat × Nat × Nat × Nat)}
    (B : BodyLoose p l y S cc maxL ret e s m args below meth c s₁) (h : (Cond.codeWith y bytes maxL' ret' hh).before args s = true) : c.exceptionTable.toList = tableOf hh := by
  obtain ⟨m9, meth9, c9, hn9, h1, h2, -, -, h6, -⟩ := Cond.codeWith_spec h
  cases Option.some.inj (hn9.symm.trans B.named)
  cases Option.some.inj (h1.symm.trans B.method)
  cases Option.some.inj (h2.symm.trans (Stand.of_body B).code)
  rw [← h6, table_eq]
end Bodies
end VXA
/-! ===== END ===== -/
/-! ===== BEGIN a static call of a method with an exception table ===== -/
section VXS
variable {p : Program} {l : Launch} {e : Env} {R : Room} {s : State} {m : MethodId} {args : Array Value} {below : List Frame} {meth : Method} {c : Code} {T : State} {H : Heap} {locs : List Loc} {cells slots : Nat}
abbrev vx_CSW (R : Room) (s : State) (args : Array Value) (own : String) (index : Nat) (y : MethodName) (bytes : ByteArray) (maxL : Nat) (ret : Option FieldType) (hh : List (Nat × Nat × Nat × Nat)) (ws : List Cond) (rm : Room) (mc ms n : Nat) : Prop :=
  (rm.cells = mc ∧ rm.slots = ms ∧ rm.frames + 1 ≤ R.frames ∧ 8 + (maxL + 11) + rm.locals ≤ R.locals ∧ (∀ w ∈ ws, ∀ (a' : Array Value) (U : State), s.WarmedH U.vm → w.before a' U = true) ∧ Cond.codeWith y bytes maxL ret hh ∈ ws) ∧
  (Cond.codeWith y bytes maxL ret hh).before args s = true ∧ (Cond.initialized y.cls).before args s = true ∧ (y.cls ≠ "java/lang/invoke/MethodHandle" ∧ y.cls ≠ "java/lang/invoke/VarHandle") ∧
  (∀ sig, parseMethodDescriptor y.desc = some sig → n = sig.parameters.length) ∧ (Cond.methodLink own index y).before args s = true ∧ (Cond.static y).before args s = true
theorem vx_cwSW {own : String} {index maxL mc ms : Nat} {y : MethodName} {bytes : ByteArray} {ret : Option FieldType} {hh : List (Nat × Nat × Nat × Nat)} {Ts ws ws' : List Cond} {rm : Room} (n : Nat) (ht : ∀ w ∈ Ts, w.before args s = true) (hT : GoodIn Ts (va_wsS own index y ws)) (hw : ws = Cond.codeWith y bytes maxL ret hh :: ws') (hrc : rm.cells = mc) (hrs : rm.slots = ms)
    (hd : y.cls ≠ "java/lang/invoke/MethodHandle" ∧ y.cls ≠ "java/lang/invoke/VarHandle" ∧ (parseMethodDescriptor y.desc).map (fun d => d.parameters.length) = some n) (hR : rm.frames + 1 ≤ R.frames ∧ 8 + (maxL + 11) + rm.locals ≤ R.locals) :
    vx_CSW R s args own index y bytes maxL ret hh ws rm mc ms n := by
  have ok : ∀ w ∈ va_wsS own index y ws, w.before args s = true := fun w h => ht w (hT w h).1
  have hG : GoodIn Ts ws := fun w h => hT w (by unfold va_wsS; exact List.mem_append_right _ h)
  have hc : Cond.codeWith y bytes maxL ret hh ∈ ws := by rw [hw]; exact List.mem_cons_self
  refine ⟨⟨hrc, hrs, hR.1, hR.2, pay_in ht hG, hc⟩, ht _ (hG _ hc).1, ok _ (by simp [va_wsS]), ⟨hd.1, hd.2.1⟩, fun sig h => ?_, ok _ (by simp [va_wsS]), ok _ (by simp [va_wsS])⟩
  have h2 := hd.2.2
  rw [h] at h2
  exact (Option.some.inj h2).symm
theorem vx_callSW (X : Stand p l e R s m args below meth c T locs cells slots) (hexec : p.tables.exec = Jvm.exec) {own : String} {index : Nat} {y : MethodName} {bytes : ByteArray} {maxL : Nat} {ret : Option FieldType} {hh : List (Nat × Nat × Nat × Nat)}
    (hown : s.vm.findClass own = some m.cls) (hlink : (Cond.methodLink own index y).before args s = true) (hstat : (Cond.static y).before args s = true) (hinit : (Cond.initialized y.cls).before args s = true)
    (hcode : (Cond.codeWith y bytes maxL ret hh).before args s = true) (hy : y.cls ≠ "java/lang/invoke/MethodHandle" ∧ y.cls ≠ "java/lang/invoke/VarHandle")
    {W9 : Nat} {Pre : Pt → Array Value → Prop} {Post : Pt → Array Value → Option Value → Pt → Prop} (hK : Back l R p e below s args y 3 W9 Pre Post)
    {g : JFrame} (hg : g.method = m) (hsize : g.locals.size = c.maxLocals) {argsL rest : List Value} (hlen : ∀ sig, parseMethodDescriptor y.desc = some sig → argsL.length = sig.parameters.length)
    (hstack : g.stack = argsL.reverse ++ rest) (hW : 2 * g.monitorRoom + (rest.map fun v => v.category).sum ≤ W9) (hdg : decode c.code g.pc = .ok (.invokestatic index, 3))
    (hpre : ∀ vm₁, s.WarmedH vm₁ → Pre ⟨T.setVm vm₁, locs, cells, slots⟩ argsL.toArray) :
    ∃ (v : Option Value) (vm₁ : Vm) (B : Pt), s.WarmedH vm₁ ∧ Stand p l e R s m args below meth c B.U B.locs B.cells B.slots ∧ Post ⟨T.setVm vm₁, locs, cells, slots⟩ argsL.toArray v B ∧
      ∀ target, Steps p.tables e below (B.U.setTop { g with pc := g.pc + 3, stack := v.toList ++ rest }) target → Steps p.tables e below (T.setTop g) target := by
  obtain ⟨mk, methM, cM, hnamed, hmethM, -, -, -, -, -, -, hsigM⟩ := Cond.codeWith_spec hcode
  have hstatic : methM.isStatic = true := Cond.static_spec hnamed hmethM hstat
  obtain ⟨kP, hkP, -⟩ := className_of_methodNamed hnamed
  have hinitP : kP.init = .initialized := Cond.initialized_spec (findClass_of_methodNamed hnamed) hkP hinit
  obtain ⟨vm₁, X₁, hstep₁⟩ := X.invokestatic hexec hown hlink hnamed hmethM hstatic hkP hinitP hy (g := g) hg (argsL := argsL) (rest := rest) (hlen _ hsigM) hstack hdg
  obtain ⟨v, B, X', hpost, hsteps⟩ := hK m meth c ⟨T.setVm vm₁, locs, cells, slots⟩ { g with stack := rest } (.invokestatic index) mk argsL.toArray X₁ hg hsize hdg hW (X₁.named hnamed) (hpre vm₁ X₁.warmed)
  exact ⟨v, vm₁, B, X₁.warmed, X', hpost, fun target h => hstep₁ _ fun acts => by rw [doInvoke_state]; exact hsteps.trans h⟩
theorem vx_runSW {y : MethodName} {bytes cc : ByteArray} {maxL nL mc ms n index : Nat} {ret : Option FieldType} {hh : List (Nat × Nat × Nat × Nat)} {ws : List Cond} {rm : Room} {Pc : Array Value → State → Prop} {Qc : Array Value → State → Outcome → State → Prop} {free : Addr → Prop} {Ts : List Cond} {own : String} {As rest : List Value} {g : JFrame}
    (S : CallFix p m c cc nL s args Ts own) (hM : Met l y ws rm Pc Qc mc ms free) (cw : vx_CSW R s args own index y bytes maxL ret hh ws rm mc ms n) (hp : PreS s H Pc As)
    (hg : g.method = m) (hn : As.length = n) (hsize : g.locals.size = nL) (hstack : g.stack = As.reverse ++ rest) (hW : 2 * g.monitorRoom + (rest.map fun v => v.category).sum ≤ 8) (hdg : decode cc g.pc = .ok (.invokestatic index, 3)) (hf : cells + mc ≤ R.cells ∧ slots + ms ≤ R.slots) :
    va_Run p l e R s m args below meth c H locs cells slots mc ms g rest (Qc As.toArray) (free) := by
  obtain ⟨⟨hrc, hrs, hfr, hlo, hws, hcw⟩, hcode, hini, hy, hlen, hl, hstt⟩ := cw
  have hK : Back l R p e below s args y 3 8 (PreOf R mc ms Pc) (PostOf Qc mc ms free) := va_backW (hh := hh) (bytes := bytes) (maxL := maxL) (ret := ret) hM hp.1 hrc hrs hfr hlo hws hcw (fun a' U hW => word_at hW (Or.inl (by first | rfl | simp [Cond.onTables, Cond.keeps, Cond.steady])) hini)
  obtain ⟨hx, hb, hml, ho, -⟩ := S
  intro T hT X
  obtain ⟨v, vm₁, ⟨U', l2, c2, s2⟩, hW₁, X', ⟨g', mk, t, L, e1, e2, hq, h1, hL, h2, h3⟩, st⟩ := vx_callSW X hx (hh := hh) (bytes := bytes) (maxL := maxL) (ret := ret) ho hl hstt hini hcode hy hK hg (hsize.trans hml.symm) (argsL := As) (rest := rest) (fun sig h => hn.trans (hlen sig h)) hstack hW (by rw [hb]; exact hdg)
    (fun vm₁ hW₁ => ⟨hf.1, hf.2, hp.2 (T.setVm vm₁) hT hW₁⟩)
  dsimp only [Pt.U, Pt.locs, Pt.cells, Pt.slots] at X' e1 e2 h1 h2 h3 st
  subst h1; subst h2; subst h3
  exact ⟨v, (T.setVm vm₁).calling g' mk As.toArray, t, U', L, hT, X', hL, e1, e2, hq, st⟩
/-- not caught here, past rows that name other classes: it goes on to the caller -/
theorem vx_outP {p : Program} {l : Launch} {e : Env} {R : Room} {s : State} {m : MethodId} {args : Array Value} {below : List Frame} {meth : Method} {c : Code} {H : Heap} {locs : List Loc} {cells slots : Nat} {free : Addr → Prop} {ls : Array Slot} {rest : List Value} {Qc : Array Value → State → Outcome → State → Prop} {XC : String → State → State → Prop}
    {pc : Nat} {own E : String} {ce : Cell} {q : Addr} {mc ms : Nat} (hown : s.vm.findClass own = some m.cls) (hlocks : meth.locks = false)
    (hpass : ∀ z ∈ c.exceptionTable.toList, covers z pc = false ∨ (z.catchType ≠ 0 ∧ ∃ nm : String, (Cond.classLink own z.catchType nm).before args s = true ∧ va_Nc E nm s)) (hcell : H[q]? = some ce) (hv : ce.vm = .none) (hcl : s.vm.findClass E = some ce.cls)
    (hx : ∀ t : State, t.heap = H → s.vm.Alike t.vm → XC E s t) (hf : ∀ z ∈ locs, free z.base) (hc : cells ≤ mc) (hs : slots ≤ ms) :
    vx_W p l e R s m args below meth c H locs cells slots (vx_MQ below Qc XC args s mc ms free) (F0 m pc ls rest) q := by
  intro T hT X
  have hpl : e.platform.magicAccessors = ({} : Platform).magicAccessors := by rw [X.admits.platform]
  obtain ⟨vm', hW', X', st⟩ := X.outThrough hlocks q (g := F0 m pc ls rest) rfl rfl rfl (cell := ce) (by rw [hT]; exact hcell) (by rw [hv]; rfl)
    (by obtain ⟨k9, h9, -⟩ := Vm.findClass_spec hcl; exact ⟨k9, h9⟩) (fun z hz => by
      rcases hpass z hz with h | ⟨hz0, nm, hl1, hn1⟩
      · exact Or.inl h
      · obtain ⟨c6, hc6, hcl6⟩ := Cond.classLink_spec hown hl1 e.platform hpl
        obtain ⟨a8, b8, h1, h2, h3⟩ := hn1
        cases Option.some.inj (h1.symm.trans hcl)
        cases Option.some.inj (h2.symm.trans hc6)
        exact Or.inr ⟨hz0, _, hcl6, h3⟩)
  obtain ⟨g₀, hfr⟩ := X'.frames_eq
  have hcell9 : ((T.setVm vm').setFrames (.throwing q :: below)).heap[q]? = some ce := by
    show T.heap[q]? = some ce
    rw [hT]; exact hcell
  have hend : Ended ((T.setVm vm').setFrames (.throwing q :: below)) below (.threw q) := State.frames_setFrames _ (State.cur_lt_of_frames hfr)
  refine ⟨(T.setVm vm').setFrames (.throwing q :: below), ?_, .threw q, X'.here.running, hend, Or.inr ⟨q, rfl, E, ce, locs, hx _ hT (X'.ends _).1.alike, hcell9, hv, hcl, (X'.ends _).1, (X'.ends _).2.mono hc hs, hf⟩⟩
  rw [X.pushThrowing_eq]
  exact st
/-- a thing of a world lies in the heap -/
theorem vx_lt {D : va_G} {cl : List vw_C} {ws : va_W} {H1 : Heap} (h : va_P D cl ws H1) {k : Nat} {q : Nat × va_E} (hk : ws[k]? = some q) : q.1 < H1.size := (h k q hk).lt
end VXS
/-! ===== END ===== -/
/-! ===== BEGIN methods with a table of their own: called by a name, returning or throwing ===== -/
section VXH
/-! vx_backW, vx_callVX, vx_callSX, vx_callVW, vx_runVW, vx_runVX, vx_runSX, vx_ofWH follow the same proofs as their sisters above (Free/Laws.lean, Shelf42/LK1.lean); vx_outP calls Shelf42/NT130.lean (outThrough). -/
section
variable {l : Launch} {R : Room} {p : Program} {e : Env} {below : List Frame} {s : State} {sargs : Array Value} {y : MethodName} {len W9 : Nat}
theorem vx_backW {ws : List Cond} {rm : Room} {Pc : Array Value → State → Prop} {Qc : Array Value → State → Outcome → State → Prop} {XC : String → State → State → Prop} {mc ms : Nat} {free : Addr → Prop} {bytes : ByteArray} {maxL : Nat} {ret : Option FieldType} {hh : List (Nat × Nat × Nat × Nat)}
    (hM : vx_Met l y ws rm Pc Qc XC mc ms free) (hblind : FrameBlind Pc) (hrc : rm.cells = mc) (hrs : rm.slots = ms)
    (hframes : rm.frames + 1 ≤ R.frames) (hlocals : W9 + (maxL + 11) + rm.locals ≤ R.locals)
    (hws : ∀ w ∈ ws, ∀ a' U, s.WarmedH U.vm → w.before a' U = true) (hcode : Cond.codeWith y bytes maxL ret hh ∈ ws) (hinit : ∀ a' U, s.WarmedH U.vm → (Cond.initialized y.cls).before a' U = true) :
    vx_Back l R p e below s sargs y len W9 (PreOf R mc ms Pc) (PostOf Qc mc ms free) (vx_Post XC mc ms free) := by
  intro m meth c A g ig mk a X hg hsize hdg hW hn hp
  have h1 : (headSpec ws rm).pre.before a A.U = true := atoms_intro fun w hw => hws w hw _ _ X.warmed
  have h2 : (Cond.codeWith y bytes maxL ret hh).before a A.U = true := hws _ hcode _ _ X.warmed
  have h3 : (Cond.initialized y.cls).before a A.U = true := hinit _ _ X.warmed
  have h4 : A.cells + (headSpec ws rm).room.cells ≤ R.cells := by rw [show (headSpec ws rm).room.cells = mc from hrc]; exact hp.1
  have h5 : A.slots + (headSpec ws rm).room.slots ≤ R.slots := by rw [show (headSpec ws rm).room.slots = ms from hrs]; exact hp.2.1
  have hPc : Pc a (A.U.calling g mk a) := hblind _ _ _ _ hp.2.2
  obtain ⟨U, Ls, c0, s0⟩ := A
  dsimp only [Pt.U, Pt.locs, Pt.cells, Pt.slots] at h1 h2 h3 h4 h5 X hn hPc ⊢
  obtain ⟨m9, methY, cY, hn9, hmY, hcY, -, hlY, -⟩ := Cond.codeWith_spec h2
  cases Option.some.inj (hn9.symm.trans hn)
  obtain ⟨kY, hkY, -⟩ := className_of_methodNamed hn
  have hinitY : kY.init = .initialized := Cond.initialized_spec (findClass_of_methodNamed hn) hkY h3
  have h : At U g.method c below := by rw [hg]; exact X.here
  have hlocals9 : W9 + (maxL + 11) + (headSpec ws rm).room.locals ≤ R.locals := hlocals
  have happ : (headSpec ws rm).appliesLoose y e.platform (U.calling g mk a) = true :=
    Spec.appliesLoose_calling (g := g) h hdg hn hkY hinitY
      (X.room_calling (g := g) (R' := (headSpec ws rm).room) hsize hmY hcY hframes (by rw [hlY]; omega) h4 h5) h1
  obtain ⟨mid, hmid⟩ := h.above
  have hfr : (U.setTop g).frames = (.java g :: mid) ++ below := by rw [State.frames_setTop' g h.top, hmid]; rfl
  obtain ⟨o, s₂, hsteps, -, hend, hq⟩ := Steps.callFree hM p X.admits X.cas X.clock (acts := []) hfr happ hPc trivial
  have hq' : vx_Q Qc XC mc ms free a (U.calling g mk a) o s₂ := hq
  rw [State.frames_setTop' g h.top] at hend
  obtain ⟨g₀, hg0⟩ := Option.isSome_iff_exists.mp h.top
  obtain ⟨r, hr⟩ := State.topJava?_eq_some.mp hg0
  have hr' : (({ U with heap := s₂.heap, slotsUsed := s₂.slotsUsed } : State).setVm s₂.vm).frames = .java g₀ :: r := hr
  rcases hq' with ⟨hqc, L, hfe, hL⟩ | ⟨q, rfl, E, ce, L, hx, hce, hcv, hcl, hW₂, hsm, hL⟩
  · obtain ⟨⟨v, rfl⟩, hW₂, e2, q2, q3, q4, q5, q6⟩ := id hfe
    have e3 : s₂ = ({ (U.calling g mk a).setFrames s₂.frames with heap := s₂.heap, slotsUsed := s₂.slotsUsed } : State).setVm s₂.vm := by
      have : s₂ = ({ s₂ with vm := (U.calling g mk a).vm } : State).setVm s₂.vm := rfl
      rw [e2] at this
      exact this
    obtain ⟨c₂, i₂, len₂, hc₂, hd₂, hf₂⟩ := hend
    have hW' : U.WarmedH s₂.vm := hW₂
    have hcc : c₂ = c := by
      have h1 : s₂.code? g.method = U.code? g.method := by
        rw [State.code?_eq, State.code?_eq, hW'.alike.method?]
      exact Option.some.inj (hc₂.symm.trans (h1.trans h.code))
    subst hcc
    have hlen : len₂ = len := by rw [hdg] at hd₂; cases hd₂; rfl
    subst hlen
    have hs₂ : s₂ = (({ U with heap := s₂.heap, slotsUsed := s₂.slotsUsed } : State).setVm s₂.vm).setTop { g with pc := g.pc + len₂, stack := v.toList ++ g.stack } := by
      refine e3.trans ?_
      rw [hf₂, State.calling_eq h.top, State.setFrames_setFrames, State.setTop_of_frames _ hr', hr]
      rfl
    have hsame : U.sameButNew ({ U with heap := s₂.heap, slotsUsed := s₂.slotsUsed } : State) L mc ms := by
      refine ⟨?_, q2, q3, q4, q5, q6⟩
      obtain ⟨t, ht, -⟩ := State.frames_cons hr
      show ({ U with heap := s₂.heap, slotsUsed := s₂.slotsUsed } : State) = { U.setFrames U.frames with heap := s₂.heap, slotsUsed := s₂.slotsUsed }
      rw [State.setFrames_self ht]
    subst hg
    refine Or.inl ⟨v, ⟨(({ U with heap := s₂.heap, slotsUsed := s₂.slotsUsed } : State).setVm s₂.vm), Ls ++ L, c0 + mc, s0 + ms⟩,
      ⟨X.admits, X.cas, X.clock, X.frames, X.room, X.hears, X.method, X.code, (X.here.setHeapUsed s₂.heap s₂.slotsUsed).setVm hW'.alike, X.tail, State.WarmedH.trans X.warmed hW', X.limits, X.bytes, X.same.trans (hsame.setVm s.vm)⟩,
      ⟨g, mk, s₂, L, rfl, rfl, hqc, rfl, hL, rfl, rfl⟩, ?_⟩
    show Steps p.tables e below _ ((({ U with heap := s₂.heap, slotsUsed := s₂.slotsUsed } : State).setVm s₂.vm).setTop { g with pc := g.pc + len₂, stack := v.toList ++ g.stack })
    rw [← hs₂]
    exact hsteps
  · obtain ⟨e2, q2, q3, q4, q5, q6⟩ := id hsm
    have e3 : s₂ = ({ (U.calling g mk a).setFrames s₂.frames with heap := s₂.heap, slotsUsed := s₂.slotsUsed } : State).setVm s₂.vm := by
      have : s₂ = ({ s₂ with vm := (U.calling g mk a).vm } : State).setVm s₂.vm := rfl
      rw [e2] at this
      exact this
    have hf₂ : s₂.frames = .throwing q :: .java g :: U.frames.tail := hend
    have hW' : U.WarmedH s₂.vm := hW₂
    have hs₂ : s₂ = ((({ U with heap := s₂.heap, slotsUsed := s₂.slotsUsed } : State).setVm s₂.vm).setTop g).pushFrame (.throwing q) := by
      refine e3.trans ?_
      rw [hf₂, State.calling_eq h.top, State.setFrames_setFrames, State.pushFrame, State.frames_setTop _ hr', State.setTop_of_frames _ hr', State.setFrames_setFrames, hr]
      rfl
    have hsame : U.sameButNew ({ U with heap := s₂.heap, slotsUsed := s₂.slotsUsed } : State) L mc ms := by
      refine ⟨?_, q2, q3, q4, q5, q6⟩
      obtain ⟨t, ht, -⟩ := State.frames_cons hr
      show ({ U with heap := s₂.heap, slotsUsed := s₂.slotsUsed } : State) = { U.setFrames U.frames with heap := s₂.heap, slotsUsed := s₂.slotsUsed }
      rw [State.setFrames_self ht]
    subst hg
    refine Or.inr ⟨q, ⟨(({ U with heap := s₂.heap, slotsUsed := s₂.slotsUsed } : State).setVm s₂.vm), Ls ++ L, c0 + mc, s0 + ms⟩,
      ⟨X.admits, X.cas, X.clock, X.frames, X.room, X.hears, X.method, X.code, (X.here.setHeapUsed s₂.heap s₂.slotsUsed).setVm hW'.alike, X.tail, State.WarmedH.trans X.warmed hW', X.limits, X.bytes, X.same.trans (hsame.setVm s.vm)⟩,
      ⟨g, mk, s₂, L, E, ce, rfl, rfl, hx, hce, hcv, hcl, rfl, hL, rfl, rfl⟩, ?_⟩
    show Steps p.tables e below _ (((({ U with heap := s₂.heap, slotsUsed := s₂.slotsUsed } : State).setVm s₂.vm).setTop g).pushFrame (.throwing q))
    rw [← hs₂]
    exact hsteps
end
variable {p : Program} {l : Launch} {e : Env} {R : Room} {s : State} {m : MethodId} {args : Array Value} {below : List Frame} {meth : Method} {c : Code} {T : State} {H : Heap} {locs : List Loc} {cells slots : Nat}
theorem vx_callVX (X : Stand p l e R s m args below meth c T locs cells slots) (hexec : p.tables.exec = Jvm.exec) {own C : String} {index : Nat} {y : MethodName} {bytes : ByteArray} {maxL : Nat} {ret : Option FieldType} {hh : List (Nat × Nat × Nat × Nat)}
    (hown : s.vm.findClass own = some m.cls) (hlink : (Cond.methodLink own index y).before args s = true) (hinst : (Cond.instanceMethod y).before args s = true) (hsel : (Cond.selects C y y).before args s = true)
    (hcode : (Cond.codeWith y bytes maxL ret hh).before args s = true) (hy : y.cls ≠ "java/lang/invoke/MethodHandle" ∧ y.cls ≠ "java/lang/invoke/VarHandle")
    {W9 : Nat} {Pre : Pt → Array Value → Prop} {Post : Pt → Array Value → Option Value → Pt → Prop} {PostX : Pt → Array Value → Addr → Pt → Prop} (hK : vx_Back l R p e below s args y 3 W9 Pre Post PostX)
    {b : Addr} {cellB : Cell} (hcell : T.heap[b]? = some cellB) (hobj : cellB.vm.isStatics = false) (hcls : s.vm.findClass C = some cellB.cls)
    {g : JFrame} (hg : g.method = m) (hsize : g.locals.size = c.maxLocals) {argsL rest : List Value} (hlen : ∀ sig, parseMethodDescriptor y.desc = some sig → argsL.length = sig.parameters.length)
    (hstack : g.stack = argsL.reverse ++ .ref b :: rest) (hW : 2 * g.monitorRoom + (rest.map fun v => v.category).sum ≤ W9) (hdg : decode c.code g.pc = .ok (.invokevirtual index, 3))
    (hpre : ∀ vm₁, s.WarmedH vm₁ → Pre ⟨T.setVm vm₁, locs, cells, slots⟩ (Value.ref b :: argsL).toArray) :
    (∃ (v : Option Value) (vm₁ : Vm) (B : Pt), s.WarmedH vm₁ ∧ Stand p l e R s m args below meth c B.U B.locs B.cells B.slots ∧ Post ⟨T.setVm vm₁, locs, cells, slots⟩ (Value.ref b :: argsL).toArray v B ∧
      ∀ target, Steps p.tables e below (B.U.setTop { g with pc := g.pc + 3, stack := v.toList ++ rest }) target → Steps p.tables e below (T.setTop g) target) ∨
    (∃ (q : Addr) (vm₁ : Vm) (B : Pt), s.WarmedH vm₁ ∧ Stand p l e R s m args below meth c B.U B.locs B.cells B.slots ∧ PostX ⟨T.setVm vm₁, locs, cells, slots⟩ (Value.ref b :: argsL).toArray q B ∧
      Steps p.tables e below (T.setTop g) ((B.U.setTop { g with stack := rest }).pushFrame (.throwing q))) := by
  obtain ⟨mk, methM, hnamed, hmethM, hstM, habM⟩ := Cond.instanceMethod_spec hinst
  obtain ⟨m8, methM', cM, hn8, hmethM', -, -, -, -, -, -, hsigM⟩ := Cond.codeWith_spec hcode
  cases Option.some.inj (hn8.symm.trans hnamed)
  cases hmethM.symm.trans hmethM'
  obtain ⟨c2, r2, m2, q1, q2, q3, q4, kP, hkP, hkPi⟩ := Cond.selects_spec hsel
  cases hcls.symm.trans q1
  cases (State.methodFound?_of_named hnamed hy).symm.trans q2
  cases hnamed.symm.trans q3
  have hselP : selectMethod e.platform s.vm cellB.cls mk = .method mk := by rw [Launch.admits_selectMethod X.admits]; exact q4
  obtain ⟨vm₁, X₁, hstep₁⟩ := X.invokevirtual hexec hown hlink hnamed hmethM hstM hkP hkPi hy (a := b) (cell := cellB) hcell
    (fun z h => by rw [h] at hobj; cases hobj) hselP hmethM habM hkP hkPi (g := g) hg (argsL := argsL) (rest := rest) (hlen _ hsigM) hstack hdg
  rcases hK m meth c ⟨T.setVm vm₁, locs, cells, slots⟩ { g with stack := rest } (.invokevirtual index) mk (Value.ref b :: argsL).toArray X₁ hg hsize hdg hW (X₁.named hnamed) (hpre vm₁ X₁.warmed) with ⟨v, B, X', hpost, hsteps⟩ | ⟨q, B, X', hpost, hsteps⟩
  · exact Or.inl ⟨v, vm₁, B, X₁.warmed, X', hpost, fun target h => hstep₁ _ fun acts => by rw [doInvoke_state]; exact hsteps.trans h⟩
  · exact Or.inr ⟨q, vm₁, B, X₁.warmed, X', hpost, hstep₁ _ fun acts => by rw [doInvoke_state]; exact hsteps⟩
theorem vx_callSX (X : Stand p l e R s m args below meth c T locs cells slots) (hexec : p.tables.exec = Jvm.exec) {own : String} {index : Nat} {y : MethodName} {bytes : ByteArray} {maxL : Nat} {ret : Option FieldType} {hh : List (Nat × Nat × Nat × Nat)}
    (hown : s.vm.findClass own = some m.cls) (hlink : (Cond.methodLink own index y).before args s = true) (hstat : (Cond.static y).before args s = true) (hinit : (Cond.initialized y.cls).before args s = true)
    (hcode : (Cond.codeWith y bytes maxL ret hh).before args s = true) (hy : y.cls ≠ "java/lang/invoke/MethodHandle" ∧ y.cls ≠ "java/lang/invoke/VarHandle")
    {W9 : Nat} {Pre : Pt → Array Value → Prop} {Post : Pt → Array Value → Option Value → Pt → Prop} {PostX : Pt → Array Value → Addr → Pt → Prop} (hK : vx_Back l R p e below s args y 3 W9 Pre Post PostX)
    {g : JFrame} (hg : g.method = m) (hsize : g.locals.size = c.maxLocals) {argsL rest : List Value} (hlen : ∀ sig, parseMethodDescriptor y.desc = some sig → argsL.length = sig.parameters.length)
    (hstack : g.stack = argsL.reverse ++ rest) (hW : 2 * g.monitorRoom + (rest.map fun v => v.category).sum ≤ W9) (hdg : decode c.code g.pc = .ok (.invokestatic index, 3))
    (hpre : ∀ vm₁, s.WarmedH vm₁ → Pre ⟨T.setVm vm₁, locs, cells, slots⟩ argsL.toArray) :
    (∃ (v : Option Value) (vm₁ : Vm) (B : Pt), s.WarmedH vm₁ ∧ Stand p l e R s m args below meth c B.U B.locs B.cells B.slots ∧ Post ⟨T.setVm vm₁, locs, cells, slots⟩ argsL.toArray v B ∧
      ∀ target, Steps p.tables e below (B.U.setTop { g with pc := g.pc + 3, stack := v.toList ++ rest }) target → Steps p.tables e below (T.setTop g) target) ∨
    (∃ (q : Addr) (vm₁ : Vm) (B : Pt), s.WarmedH vm₁ ∧ Stand p l e R s m args below meth c B.U B.locs B.cells B.slots ∧ PostX ⟨T.setVm vm₁, locs, cells, slots⟩ argsL.toArray q B ∧
      Steps p.tables e below (T.setTop g) ((B.U.setTop { g with stack := rest }).pushFrame (.throwing q))) := by
  obtain ⟨mk, methM, cM, hnamed, hmethM, -, -, -, -, -, -, hsigM⟩ := Cond.codeWith_spec hcode
  have hstatic : methM.isStatic = true := Cond.static_spec hnamed hmethM hstat
  obtain ⟨kP, hkP, -⟩ := className_of_methodNamed hnamed
  have hinitP : kP.init = .initialized := Cond.initialized_spec (findClass_of_methodNamed hnamed) hkP hinit
  obtain ⟨vm₁, X₁, hstep₁⟩ := X.invokestatic hexec hown hlink hnamed hmethM hstatic hkP hinitP hy (g := g) hg (argsL := argsL) (rest := rest) (hlen _ hsigM) hstack hdg
  rcases hK m meth c ⟨T.setVm vm₁, locs, cells, slots⟩ { g with stack := rest } (.invokestatic index) mk argsL.toArray X₁ hg hsize hdg hW (X₁.named hnamed) (hpre vm₁ X₁.warmed) with ⟨v, B, X', hpost, hsteps⟩ | ⟨q, B, X', hpost, hsteps⟩
  · exact Or.inl ⟨v, vm₁, B, X₁.warmed, X', hpost, fun target h => hstep₁ _ fun acts => by rw [doInvoke_state]; exact hsteps.trans h⟩
  · exact Or.inr ⟨q, vm₁, B, X₁.warmed, X', hpost, hstep₁ _ fun acts => by rw [doInvoke_state]; exact hsteps⟩
theorem vx_callVW (X : Stand p l e R s m args below meth c T locs cells slots) (hexec : p.tables.exec = Jvm.exec) {own C : String} {index : Nat} {y : MethodName} {bytes : ByteArray} {maxL : Nat} {ret : Option FieldType} {hh : List (Nat × Nat × Nat × Nat)}
    (hown : s.vm.findClass own = some m.cls) (hlink : (Cond.methodLink own index y).before args s = true) (hinst : (Cond.instanceMethod y).before args s = true) (hsel : (Cond.selects C y y).before args s = true)
    (hcode : (Cond.codeWith y bytes maxL ret hh).before args s = true) (hy : y.cls ≠ "java/lang/invoke/MethodHandle" ∧ y.cls ≠ "java/lang/invoke/VarHandle")
    {W9 : Nat} {Pre : Pt → Array Value → Prop} {Post : Pt → Array Value → Option Value → Pt → Prop} (hK : Back l R p e below s args y 3 W9 Pre Post)
    {b : Addr} {cellB : Cell} (hcell : T.heap[b]? = some cellB) (hobj : cellB.vm.isStatics = false) (hcls : s.vm.findClass C = some cellB.cls)
    {g : JFrame} (hg : g.method = m) (hsize : g.locals.size = c.maxLocals) {argsL rest : List Value} (hlen : ∀ sig, parseMethodDescriptor y.desc = some sig → argsL.length = sig.parameters.length)
    (hstack : g.stack = argsL.reverse ++ .ref b :: rest) (hW : 2 * g.monitorRoom + (rest.map fun v => v.category).sum ≤ W9) (hdg : decode c.code g.pc = .ok (.invokevirtual index, 3))
    (hpre : ∀ vm₁, s.WarmedH vm₁ → Pre ⟨T.setVm vm₁, locs, cells, slots⟩ (Value.ref b :: argsL).toArray) :
    ∃ (v : Option Value) (vm₁ : Vm) (B : Pt), s.WarmedH vm₁ ∧ Stand p l e R s m args below meth c B.U B.locs B.cells B.slots ∧ Post ⟨T.setVm vm₁, locs, cells, slots⟩ (Value.ref b :: argsL).toArray v B ∧
      ∀ target, Steps p.tables e below (B.U.setTop { g with pc := g.pc + 3, stack := v.toList ++ rest }) target → Steps p.tables e below (T.setTop g) target := by
  obtain ⟨mk, methM, hnamed, hmethM, hstM, habM⟩ := Cond.instanceMethod_spec hinst
  obtain ⟨m8, methM', cM, hn8, hmethM', -, -, -, -, -, -, hsigM⟩ := Cond.codeWith_spec hcode
  cases Option.some.inj (hn8.symm.trans hnamed)
  cases hmethM.symm.trans hmethM'
  obtain ⟨c2, r2, m2, q1, q2, q3, q4, kP, hkP, hkPi⟩ := Cond.selects_spec hsel
  cases hcls.symm.trans q1
  cases (State.methodFound?_of_named hnamed hy).symm.trans q2
  cases hnamed.symm.trans q3
  have hselP : selectMethod e.platform s.vm cellB.cls mk = .method mk := by rw [Launch.admits_selectMethod X.admits]; exact q4
  obtain ⟨vm₁, X₁, hstep₁⟩ := X.invokevirtual hexec hown hlink hnamed hmethM hstM hkP hkPi hy (a := b) (cell := cellB) hcell
    (fun z h => by rw [h] at hobj; cases hobj) hselP hmethM habM hkP hkPi (g := g) hg (argsL := argsL) (rest := rest) (hlen _ hsigM) hstack hdg
  obtain ⟨v, B, X', hpost, hsteps⟩ := hK m meth c ⟨T.setVm vm₁, locs, cells, slots⟩ { g with stack := rest } (.invokevirtual index) mk (Value.ref b :: argsL).toArray X₁ hg hsize hdg hW (X₁.named hnamed) (hpre vm₁ X₁.warmed)
  exact ⟨v, vm₁, B, X₁.warmed, X', hpost, fun target h => hstep₁ _ fun acts => by rw [doInvoke_state]; exact hsteps.trans h⟩
abbrev vx_CVW (R : Room) (s : State) (args : Array Value) (own C : String) (index : Nat) (y : MethodName) (bytes : ByteArray) (maxL : Nat) (ret : Option FieldType) (hh : List (Nat × Nat × Nat × Nat)) (ws : List Cond) (rm : Room) (mc ms n : Nat) : Prop :=
  (rm.cells = mc ∧ rm.slots = ms ∧ rm.frames + 1 ≤ R.frames ∧ 8 + (maxL + 11) + rm.locals ≤ R.locals ∧ (∀ w ∈ ws, ∀ (a' : Array Value) (U : State), s.WarmedH U.vm → w.before a' U = true) ∧ Cond.codeWith y bytes maxL ret hh ∈ ws) ∧
  (Cond.codeWith y bytes maxL ret hh).before args s = true ∧ (Cond.initialized y.cls).before args s = true ∧ (y.cls ≠ "java/lang/invoke/MethodHandle" ∧ y.cls ≠ "java/lang/invoke/VarHandle") ∧
  (∀ sig, parseMethodDescriptor y.desc = some sig → n = sig.parameters.length) ∧ (Cond.methodLink own index y).before args s = true ∧ (Cond.instanceMethod y).before args s = true ∧ (Cond.selects C y y).before args s = true
theorem vx_cwVW {own C : String} {index maxL mc ms : Nat} {y : MethodName} {bytes : ByteArray} {ret : Option FieldType} {hh : List (Nat × Nat × Nat × Nat)} {Ts ws ws' : List Cond} {rm : Room} (n : Nat) (ht : ∀ w ∈ Ts, w.before args s = true) (hT : GoodIn Ts (wsV own index C y ws)) (hw : ws = Cond.codeWith y bytes maxL ret hh :: ws') (hrc : rm.cells = mc) (hrs : rm.slots = ms)
    (hd : y.cls = C ∧ y.cls ≠ "java/lang/invoke/MethodHandle" ∧ y.cls ≠ "java/lang/invoke/VarHandle" ∧ (parseMethodDescriptor y.desc).map (fun d => d.parameters.length) = some n) (hR : rm.frames + 1 ≤ R.frames ∧ 8 + (maxL + 11) + rm.locals ≤ R.locals) :
    vx_CVW R s args own C index y bytes maxL ret hh ws rm mc ms n := by
  obtain ⟨hC, hd⟩ := hd
  subst hC
  have ok : ∀ w ∈ wsV own index y.cls y ws, w.before args s = true := fun w h => ht w (hT w h).1
  have hG : GoodIn Ts ws := fun w h => hT w (by unfold wsV; exact List.mem_append_right _ h)
  have hc : Cond.codeWith y bytes maxL ret hh ∈ ws := by rw [hw]; exact List.mem_cons_self
  refine ⟨⟨hrc, hrs, hR.1, hR.2, pay_in ht hG, hc⟩, ht _ (hG _ hc).1, ok _ (by simp [wsV]), ⟨hd.1, hd.2.1⟩, fun sig h => ?_, ok _ (by simp [wsV]), ok _ (by simp [wsV]), ok _ (by simp [wsV])⟩
  have h2 := hd.2.2
  rw [h] at h2
  exact (Option.some.inj h2).symm
theorem vx_runVW {y : MethodName} {bytes cc : ByteArray} {maxL nL mc ms n index : Nat} {ret : Option FieldType} {hh : List (Nat × Nat × Nat × Nat)} {ws : List Cond} {rm : Room} {Pc : Array Value → State → Prop} {Qc : Array Value → State → Outcome → State → Prop} {free : Addr → Prop} {Ts : List Cond} {own C : String} {b : Addr} {As rest : List Value} {g : JFrame}
    (S : CallFix p m c cc nL s args Ts own) (hM : Met l y ws rm Pc Qc mc ms free) (cw : vx_CVW R s args own C index y bytes maxL ret hh ws rm mc ms n) (hp : PreV s H C b Pc As)
    (hg : g.method = m) (hn : As.length = n) (hsize : g.locals.size = nL) (hstack : g.stack = As.reverse ++ .ref b :: rest) (hW : 2 * g.monitorRoom + (rest.map fun v => v.category).sum ≤ 8) (hdg : decode cc g.pc = .ok (.invokevirtual index, 3)) (hf : cells + mc ≤ R.cells ∧ slots + ms ≤ R.slots) :
    va_Run p l e R s m args below meth c H locs cells slots mc ms g rest (Qc (Value.ref b :: As).toArray) free := by
  obtain ⟨⟨hrc, hrs, hfr, hlo, hws, hcw⟩, hcode, hini, hy, hlen, hl, hin, hse⟩ := cw
  have hK : Back l R p e below s args y 3 8 (PreOf R mc ms Pc) (PostOf Qc mc ms free) := va_backW (hh := hh) (bytes := bytes) (maxL := maxL) (ret := ret) hM hp.1 hrc hrs hfr hlo hws hcw (fun a' U hW => word_at hW (Or.inl (by first | rfl | simp [Cond.onTables, Cond.keeps, Cond.steady])) hini)
  obtain ⟨hx, hb, hml, ho, -⟩ := S
  obtain ⟨-, ⟨cellB, hcB, hoB, hclB⟩, hPc⟩ := hp
  intro T hT X
  obtain ⟨v, vm₁, ⟨U', l2, c2, s2⟩, hW₁, X', ⟨g', mk, t, L, e1, e2, hq, h1, hL, h2, h3⟩, st⟩ := vx_callVW X hx (C := C) (hh := hh) (bytes := bytes) (maxL := maxL) (ret := ret) ho hl hin hse hcode hy hK (by rw [hT]; exact hcB) hoB hclB hg (hsize.trans hml.symm) (argsL := As) (rest := rest) (fun sig h => hn.trans (hlen sig h)) hstack hW (by rw [hb]; exact hdg)
    (fun vm₁ hW₁ => ⟨hf.1, hf.2, hPc (T.setVm vm₁) hT hW₁⟩)
  dsimp only [Pt.U, Pt.locs, Pt.cells, Pt.slots] at X' e1 e2 h1 h2 h3 st
  subst h1; subst h2; subst h3
  exact ⟨v, (T.setVm vm₁).calling g' mk (Value.ref b :: As).toArray, t, U', L, hT, X', hL, e1, e2, hq, st⟩
section
variable {y : MethodName} {bytes cc : ByteArray} {maxL nL mc ms n index : Nat} {ret : Option FieldType} {ws : List Cond} {rm : Room} {Pc : Array Value → State → Prop} {Qc : Array Value → State → Outcome → State → Prop} {XC : String → State → State → Prop} {free : Addr → Prop} {Ts : List Cond} {own C : String} {b : Addr} {As rest : List Value} {g : JFrame}
theorem vx_runVX {hh : List (Nat × Nat × Nat × Nat)} (S : CallFix p m c cc nL s args Ts own) (hM : vx_Met l y ws rm Pc Qc XC mc ms free) (cw : vx_CVW R s args own C index y bytes maxL ret hh ws rm mc ms n) (hp : PreV s H C b Pc As)
    (hg : g.method = m) (hn : As.length = n) (hsize : g.locals.size = nL) (hstack : g.stack = As.reverse ++ .ref b :: rest) (hW : 2 * g.monitorRoom + (rest.map fun v => v.category).sum ≤ 8) (hdg : decode cc g.pc = .ok (.invokevirtual index, 3)) (hf : cells + mc ≤ R.cells ∧ slots + ms ≤ R.slots) :
    vx_Run p l e R s m args below meth c H locs cells slots mc ms g rest (Qc (Value.ref b :: As).toArray) XC free := by
  obtain ⟨⟨hrc, hrs, hfr, hlo, hws, hcw⟩, hcode, hini, hy, hlen, hl, hin, hse⟩ := cw
  have hK : vx_Back l R p e below s args y 3 8 (PreOf R mc ms Pc) (PostOf Qc mc ms free) (vx_Post XC mc ms free) := vx_backW (hh := hh) (bytes := bytes) (maxL := maxL) (ret := ret) hM hp.1 hrc hrs hfr hlo hws hcw (fun a' U hW => word_at hW (Or.inl (by first | rfl | simp [Cond.onTables, Cond.keeps, Cond.steady])) hini)
  obtain ⟨hx, hb, hml, ho, -⟩ := S
  obtain ⟨-, ⟨cellB, hcB, hoB, hclB⟩, hPc⟩ := hp
  intro T hT X
  rcases vx_callVX X hx (C := C) (hh := hh) (bytes := bytes) (maxL := maxL) (ret := ret) ho hl hin hse hcode hy hK (by rw [hT]; exact hcB) hoB hclB hg (hsize.trans hml.symm) (argsL := As) (rest := rest) (fun sig h => hn.trans (hlen sig h)) hstack hW (by rw [hb]; exact hdg)
    (fun vm₁ hW₁ => ⟨hf.1, hf.2, hPc (T.setVm vm₁) hT hW₁⟩) with ⟨v, vm₁, ⟨U', l2, c2, s2⟩, hW₁, X', ⟨g', mk, t, L, e1, e2, hq, h1, hL, h2, h3⟩, st⟩ | ⟨q, vm₁, ⟨U', l2, c2, s2⟩, hW₁, X', ⟨g', mk, t, L, E, ce, e1, e2, hq, hce, hcv, hcl, h1, hL, h2, h3⟩, st⟩
  · dsimp only [Pt.U, Pt.locs, Pt.cells, Pt.slots] at X' e1 e2 h1 h2 h3 st
    subst h1; subst h2; subst h3
    exact Or.inl ⟨v, (T.setVm vm₁).calling g' mk (Value.ref b :: As).toArray, t, U', L, hT, X', hL, e1, e2, hq, st⟩
  · dsimp only [Pt.U, Pt.locs, Pt.cells, Pt.slots] at X' e1 e2 h1 h2 h3 st hcl
    subst h1; subst h2; subst h3
    exact Or.inr ⟨q, (T.setVm vm₁).calling g' mk (Value.ref b :: As).toArray, t, U', L, E, ce, hT, X', hL, e1, e2, hq, hce, hcv, vx_cls hW₁ hcl, st⟩
theorem vx_runSX {hh : List (Nat × Nat × Nat × Nat)} (S : CallFix p m c cc nL s args Ts own) (hM : vx_Met l y ws rm Pc Qc XC mc ms free) (cw : vx_CSW R s args own index y bytes maxL ret hh ws rm mc ms n) (hp : PreS s H Pc As)
    (hg : g.method = m) (hn : As.length = n) (hsize : g.locals.size = nL) (hstack : g.stack = As.reverse ++ rest) (hW : 2 * g.monitorRoom + (rest.map fun v => v.category).sum ≤ 8) (hdg : decode cc g.pc = .ok (.invokestatic index, 3)) (hf : cells + mc ≤ R.cells ∧ slots + ms ≤ R.slots) :
    vx_Run p l e R s m args below meth c H locs cells slots mc ms g rest (Qc As.toArray) XC free := by
  obtain ⟨⟨hrc, hrs, hfr, hlo, hws, hcw⟩, hcode, hini, hy, hlen, hl, hstt⟩ := cw
  have hK : vx_Back l R p e below s args y 3 8 (PreOf R mc ms Pc) (PostOf Qc mc ms free) (vx_Post XC mc ms free) := vx_backW (hh := hh) (bytes := bytes) (maxL := maxL) (ret := ret) hM hp.1 hrc hrs hfr hlo hws hcw (fun a' U hW => word_at hW (Or.inl (by first | rfl | simp [Cond.onTables, Cond.keeps, Cond.steady])) hini)
  obtain ⟨hx, hb, hml, ho, -⟩ := S
  intro T hT X
  rcases vx_callSX X hx (hh := hh) (bytes := bytes) (maxL := maxL) (ret := ret) ho hl hstt hini hcode hy hK hg (hsize.trans hml.symm) (argsL := As) (rest := rest) (fun sig h => hn.trans (hlen sig h)) hstack hW (by rw [hb]; exact hdg)
    (fun vm₁ hW₁ => ⟨hf.1, hf.2, hp.2 (T.setVm vm₁) hT hW₁⟩) with ⟨v, vm₁, ⟨U', l2, c2, s2⟩, hW₁, X', ⟨g', mk, t, L, e1, e2, hq, h1, hL, h2, h3⟩, st⟩ | ⟨q, vm₁, ⟨U', l2, c2, s2⟩, hW₁, X', ⟨g', mk, t, L, E, ce, e1, e2, hq, hce, hcv, hcl, h1, hL, h2, h3⟩, st⟩
  · dsimp only [Pt.U, Pt.locs, Pt.cells, Pt.slots] at X' e1 e2 h1 h2 h3 st
    subst h1; subst h2; subst h3
    exact Or.inl ⟨v, (T.setVm vm₁).calling g' mk As.toArray, t, U', L, hT, X', hL, e1, e2, hq, st⟩
  · dsimp only [Pt.U, Pt.locs, Pt.cells, Pt.slots] at X' e1 e2 h1 h2 h3 st hcl
    subst h1; subst h2; subst h3
    exact Or.inr ⟨q, (T.setVm vm₁).calling g' mk As.toArray, t, U', L, E, ce, hT, X', hL, e1, e2, hq, hce, hcv, vx_cls hW₁ hcl, st⟩
end
end VXH
theorem vx_ofWH {l : Launch} {y : MethodName} {ws ws' : List Cond} {rm : Room} {Pc : Array Value → State → Prop} {Qc : Array Value → State → Outcome → State → Prop} {XC : String → State → State → Prop} {mc ms : Nat} {free : Addr → Prop} {cc : ByteArray} {maxL : Nat} {ret : Option FieldType} {hh : List (Nat × Nat × Nat × Nat)}
    (hy : plainName y.cls = true) (hw : ws = Cond.codeWith y cc maxL ret hh :: ws')
    (body : ∀ p e s m args below meth c s₁, BodyLoose p l y (headSpec ws rm) cc maxL ret e s m args below meth c s₁ → c.maxLocals = maxL → Pc args s →
      W p l e (headSpec ws rm).room s m args below meth c s.heap [] 0 0 (vx_MQ below Qc XC args s mc ms free) (entryFrame m args maxL)) : vx_Met l y ws rm Pc Qc XC mc ms free := by
  refine MetFree.of_bodyS (code := cc) (maxLocals := maxL) (ret := ret) hy ?_ ?_
  · intro args s m h hn
    obtain ⟨m9, meth, c, hn9, h1, h2, h3, h4, -, h5, h6, -⟩ := Cond.codeWith_spec (atoms_spec (ws := ws) h _ (by rw [hw]; exact List.mem_cons_self))
    cases hn.symm.trans hn9
    exact ⟨meth, c, h1, h2, h3, h4, h5, h6⟩
  · intro p e s m args below meth c s₁ B hml hP _
    have hh0 : s₁.heap = s.heap := by rw [B.state]; rfl
    obtain ⟨t, a1, o, b1, b2, b3⟩ := body p e s m args below meth c s₁ B hml hP s₁ hh0 (Stand.of_body B)
    exact ⟨t, o, a1, b1, b2, b3⟩
/-! ===== END ===== -/

/-! ===== BEGIN printed: names, fields, word lists, decode rows ===== -/
def RX0 : String := "RingCircuits$Circuit"
def TX0 : u_T := fun k => match k with
  | 0 => ("RingCircuits$Circuit", "gates", "[I", true)
  | _ => ("RingCircuits$Circuit", "count", "I", false)
def tyX0 : Nat → FieldType := fun k => match k with
  | 0 => .array .int
  | _ => .int
abbrev wsX00 : List Cond := u_ws RX0 TX0 2
theorem nmX0 : ∀ a, a < 2 → ∀ b, b < 2 → a ≠ b → (TX0 a).2.1 ≠ (TX0 b).2.1 := by decide +kernel
theorem tyX0_ok : ∀ k, k < 2 → parseFieldDescriptor (TX0 k).2.2.1 = some (tyX0 k) := by decide +kernel
abbrev cX0_init : ByteArray := prog_2_method_1_code
def yX0_init : MethodName := ⟨RX0, "<init>", "()V"⟩
abbrev cX0_count : ByteArray := prog_2_method_2_code
def yX0_count : MethodName := ⟨RX0, "count", "()I"⟩
abbrev cX0_at : ByteArray := prog_2_method_3_code
def yX0_at : MethodName := ⟨RX0, "at", "(I)I"⟩
abbrev cX0_removeAll : ByteArray := prog_2_method_4_code
def yX0_removeAll : MethodName := ⟨RX0, "removeAll", "()V"⟩
abbrev cX0_add : ByteArray := prog_2_method_5_code
def yX0_add : MethodName := ⟨RX0, "add", "(I)V"⟩
abbrev cX0_addAll : ByteArray := prog_2_method_6_code
def yX0_addAll : MethodName := ⟨RX0, "addAll", "(LRingCircuits$Circuit;)V"⟩
abbrev cX0_become : ByteArray := prog_2_method_7_code
def yX0_become : MethodName := ⟨RX0, "become", "(LRingCircuits$Circuit;)V"⟩
abbrev cX0_countKind : ByteArray := prog_2_method_8_code
def yX0_countKind : MethodName := ⟨RX0, "countKind", "(I)I"⟩
abbrev cX0_isOnOneWire : ByteArray := prog_2_method_9_code
def yX0_isOnOneWire : MethodName := ⟨RX0, "isOnOneWire", "()Z"⟩
abbrev cX0_countInverted : ByteArray := prog_2_method_10_code
def yX0_countInverted : MethodName := ⟨RX0, "countInverted", "()I"⟩
abbrev cX0_addInverted : ByteArray := prog_2_method_11_code
def yX0_addInverted : MethodName := ⟨RX0, "addInverted", "(LRingCircuits$Circuit;)V"⟩
abbrev cX0_countExpanded : ByteArray := prog_2_method_12_code
def yX0_countExpanded : MethodName := ⟨RX0, "countExpanded", "()I"⟩
abbrev cX0_addExpanded : ByteArray := prog_2_method_13_code
def yX0_addExpanded : MethodName := ⟨RX0, "addExpanded", "(LRingCircuits$Circuit;)V"⟩
abbrev cX0_addParts : ByteArray := prog_2_method_14_code
def yX0_addParts : MethodName := ⟨RX0, "addParts", "(III)V"⟩
abbrev cX0_addOn : ByteArray := prog_2_method_15_code
def yX0_addOn : MethodName := ⟨RX0, "addOn", "(II)V"⟩
abbrev cX0_addControlled : ByteArray := prog_2_method_16_code
def yX0_addControlled : MethodName := ⟨RX0, "addControlled", "(II)V"⟩
abbrev cX0_addBackTurn : ByteArray := prog_2_method_17_code
def yX0_addBackTurn : MethodName := ⟨RX0, "addBackTurn", "(I)V"⟩
abbrev cX0_rewriteAll : ByteArray := prog_2_method_18_code
def yX0_rewriteAll : MethodName := ⟨RX0, "rewriteAll", "()V"⟩
abbrev cX0_rewriteOne : ByteArray := prog_2_method_19_code
def yX0_rewriteOne : MethodName := ⟨RX0, "rewriteOne", "()Z"⟩
abbrev cX0_partnerOf : ByteArray := prog_2_method_20_code
def yX0_partnerOf : MethodName := ⟨RX0, "partnerOf", "(I)I"⟩
abbrev cX0_unite : ByteArray := prog_2_method_21_code
def yX0_unite : MethodName := ⟨RX0, "unite", "(II)V"⟩
abbrev cX0_removeAt : ByteArray := prog_2_method_22_code
def yX0_removeAt : MethodName := ⟨RX0, "removeAt", "(I)V"⟩
def RX1 : String := "RingCircuits$Column"
def TX1 : u_T := fun k => match k with
  | 0 => ("RingCircuits$Column", "parts", "[J", true)
  | 1 => ("RingCircuits$Column", "states", "I", false)
  | _ => ("RingCircuits$Column", "exponent", "I", false)
def tyX1 : Nat → FieldType := fun k => match k with
  | 0 => .array .long
  | 1 => .int
  | _ => .int
abbrev wsX10 : List Cond := u_ws RX1 TX1 3
theorem nmX1 : ∀ a, a < 3 → ∀ b, b < 3 → a ≠ b → (TX1 a).2.1 ≠ (TX1 b).2.1 := by decide +kernel
theorem tyX1_ok : ∀ k, k < 3 → parseFieldDescriptor (TX1 k).2.2.1 = some (tyX1 k) := by decide +kernel
abbrev cX1_init : ByteArray := prog_3_method_1_code
def yX1_init : MethodName := ⟨RX1, "<init>", "()V"⟩
abbrev cX1_exponent : ByteArray := prog_3_method_2_code
def yX1_exponent : MethodName := ⟨RX1, "exponent", "()I"⟩
abbrev cX1_part : ByteArray := prog_3_method_3_code
def yX1_part : MethodName := ⟨RX1, "part", "(II)J"⟩
abbrev cX1_run : ByteArray := prog_3_method_4_code
def yX1_run : MethodName := ⟨RX1, "run", "(LRingCircuits$Circuit;III)V"⟩
abbrev cX1_apply : ByteArray := prog_3_method_5_code
def yX1_apply : MethodName := ⟨RX1, "apply", "(I)V"⟩
abbrev cX1_mix : ByteArray := prog_3_method_6_code
def yX1_mix : MethodName := ⟨RX1, "mix", "(I)V"⟩
abbrev cX1_mixPair : ByteArray := prog_3_method_7_code
def yX1_mixPair : MethodName := ⟨RX1, "mixPair", "(II)V"⟩
abbrev cX1_trade : ByteArray := prog_3_method_8_code
def yX1_trade : MethodName := ⟨RX1, "trade", "(II)V"⟩
abbrev cX1_flip : ByteArray := prog_3_method_9_code
def yX1_flip : MethodName := ⟨RX1, "flip", "(II)V"⟩
abbrev cX1_exchange : ByteArray := prog_3_method_10_code
def yX1_exchange : MethodName := ⟨RX1, "exchange", "(II)V"⟩
abbrev cX1_turn : ByteArray := prog_3_method_11_code
def yX1_turn : MethodName := ⟨RX1, "turn", "(II)V"⟩
abbrev cX1_turnOne : ByteArray := prog_3_method_12_code
def yX1_turnOne : MethodName := ⟨RX1, "turnOne", "(II)V"⟩
abbrev cX1_raise : ByteArray := prog_3_method_13_code
def yX1_raise : MethodName := ⟨RX1, "raise", "()V"⟩
abbrev cX1_timesRoot : ByteArray := prog_3_method_14_code
def yX1_timesRoot : MethodName := ⟨RX1, "timesRoot", "(I)V"⟩
abbrev cX1_lower : ByteArray := prog_3_method_15_code
def yX1_lower : MethodName := ⟨RX1, "lower", "()V"⟩
abbrev cX1_canBeDivided : ByteArray := prog_3_method_16_code
def yX1_canBeDivided : MethodName := ⟨RX1, "canBeDivided", "()Z"⟩
abbrev cX1_divide : ByteArray := prog_3_method_17_code
def yX1_divide : MethodName := ⟨RX1, "divide", "()V"⟩
abbrev cX1_firstDifference : ByteArray := prog_3_method_18_code
def yX1_firstDifference : MethodName := ⟨RX1, "firstDifference", "(LRingCircuits$Column;)I"⟩
abbrev cX1_isTurned : ByteArray := prog_3_method_19_code
def yX1_isTurned : MethodName := ⟨RX1, "isTurned", "(LRingCircuits$Column;I)Z"⟩
abbrev cX1_weightWhole : ByteArray := prog_3_method_20_code
def yX1_weightWhole : MethodName := ⟨RX1, "weightWhole", "(II)J"⟩
abbrev cX1_weightRoot : ByteArray := prog_3_method_21_code
def yX1_weightRoot : MethodName := ⟨RX1, "weightRoot", "(II)J"⟩
abbrev cX1_hasAny : ByteArray := prog_3_method_22_code
def yX1_hasAny : MethodName := ⟨RX1, "hasAny", "(II)Z"⟩
abbrev cX1_keepOnly : ByteArray := prog_3_method_23_code
def yX1_keepOnly : MethodName := ⟨RX1, "keepOnly", "(II)V"⟩
def RX2 : String := "RingCircuits$Gate"
def TX2 : u_T := fun k => match k with
  | _ => ("", "", "", false)
def tyX2 : Nat → FieldType := fun k => match k with
  | _ => .int
abbrev wsX20 : List Cond := u_ws RX2 TX2 0
theorem nmX2 : ∀ a, a < 0 → ∀ b, b < 0 → a ≠ b → (TX2 a).2.1 ≠ (TX2 b).2.1 := by decide +kernel
theorem tyX2_ok : ∀ k, k < 0 → parseFieldDescriptor (TX2 k).2.2.1 = some (tyX2 k) := by decide +kernel
abbrev cX2_canStand : ByteArray := prog_4_method_2_code
def yX2_canStand : MethodName := ⟨RX2, "canStand", "(IIIII)Z"⟩
abbrev cX2_of : ByteArray := prog_4_method_3_code
def yX2_of : MethodName := ⟨RX2, "of", "(IIII)I"⟩
abbrev cX2_wiresOf : ByteArray := prog_4_method_4_code
def yX2_wiresOf : MethodName := ⟨RX2, "wiresOf", "(I)I"⟩
abbrev cX2_kind : ByteArray := prog_4_method_5_code
def yX2_kind : MethodName := ⟨RX2, "kind", "(I)I"⟩
abbrev cX2_a : ByteArray := prog_4_method_6_code
def yX2_a : MethodName := ⟨RX2, "a", "(I)I"⟩
abbrev cX2_b : ByteArray := prog_4_method_7_code
def yX2_b : MethodName := ⟨RX2, "b", "(I)I"⟩
abbrev cX2_c : ByteArray := prog_4_method_8_code
def yX2_c : MethodName := ⟨RX2, "c", "(I)I"⟩
abbrev cX2_wireBits : ByteArray := prog_4_method_9_code
def yX2_wireBits : MethodName := ⟨RX2, "wireBits", "(I)I"⟩
abbrev cX2_flips : ByteArray := prog_4_method_10_code
def yX2_flips : MethodName := ⟨RX2, "flips", "(I)Z"⟩
abbrev cX2_targetBit : ByteArray := prog_4_method_11_code
def yX2_targetBit : MethodName := ⟨RX2, "targetBit", "(I)I"⟩
abbrev cX2_controlBits : ByteArray := prog_4_method_12_code
def yX2_controlBits : MethodName := ⟨RX2, "controlBits", "(I)I"⟩
abbrev cX2_turns : ByteArray := prog_4_method_13_code
def yX2_turns : MethodName := ⟨RX2, "turns", "(I)I"⟩
abbrev cX2_meet : ByteArray := prog_4_method_14_code
def yX2_meet : MethodName := ⟨RX2, "meet", "(II)Z"⟩
abbrev cX2_united : ByteArray := prog_4_method_15_code
def yX2_united : MethodName := ⟨RX2, "united", "(I)I"⟩
abbrev cX2_pass : ByteArray := prog_4_method_16_code
def yX2_pass : MethodName := ⟨RX2, "pass", "(II)Z"⟩
abbrev cX2_onlyTurns : ByteArray := prog_4_method_17_code
def yX2_onlyTurns : MethodName := ⟨RX2, "onlyTurns", "(I)Z"⟩
abbrev cX2_slipsBy : ByteArray := prog_4_method_18_code
def yX2_slipsBy : MethodName := ⟨RX2, "slipsBy", "(II)Z"⟩
def RX3 : String := "RingCircuits$LeastForm"
def TX3 : u_T := fun k => match k with
  | 0 => ("RingCircuits$LeastForm", "heads", "[I", true)
  | 1 => ("RingCircuits$LeastForm", "count", "I", false)
  | 2 => ("RingCircuits$LeastForm", "rest", "I", false)
  | _ => ("RingCircuits$LeastForm", "word", "I", false)
def tyX3 : Nat → FieldType := fun k => match k with
  | 0 => .array .int
  | 1 => .int
  | 2 => .int
  | _ => .int
abbrev wsX30 : List Cond := u_ws RX3 TX3 4
theorem nmX3 : ∀ a, a < 4 → ∀ b, b < 4 → a ≠ b → (TX3 a).2.1 ≠ (TX3 b).2.1 := by decide +kernel
theorem tyX3_ok : ∀ k, k < 4 → parseFieldDescriptor (TX3 k).2.2.1 = some (tyX3 k) := by decide +kernel
abbrev cX3_init : ByteArray := prog_5_method_1_code
def yX3_init : MethodName := ⟨RX3, "<init>", "()V"⟩
abbrev cX3_take : ByteArray := prog_5_method_2_code
def yX3_take : MethodName := ⟨RX3, "take", "(LRingCircuits$Circuit;)V"⟩
abbrev cX3_takeT : ByteArray := prog_5_method_3_code
def yX3_takeT : MethodName := ⟨RX3, "takeT", "()V"⟩
abbrev cX3_countT : ByteArray := prog_5_method_4_code
def yX3_countT : MethodName := ⟨RX3, "countT", "()I"⟩
abbrev cX3_countGates : ByteArray := prog_5_method_5_code
def yX3_countGates : MethodName := ⟨RX3, "countGates", "()I"⟩
abbrev cX3_addTo : ByteArray := prog_5_method_6_code
def yX3_addTo : MethodName := ⟨RX3, "addTo", "(LRingCircuits$Circuit;I)V"⟩
abbrev cX3_wordOf : ByteArray := prog_5_method_7_code
def yX3_wordOf : MethodName := ⟨RX3, "wordOf", "(I)I"⟩
abbrev cX3_rotationOfWord : ByteArray := prog_5_method_8_code
def yX3_rotationOfWord : MethodName := ⟨RX3, "rotationOfWord", "(I)I"⟩
abbrev cX3_rotationOf : ByteArray := prog_5_method_9_code
def yX3_rotationOf : MethodName := ⟨RX3, "rotationOf", "(I)I"⟩
abbrev cX3_headOf : ByteArray := prog_5_method_10_code
def yX3_headOf : MethodName := ⟨RX3, "headOf", "(I)I"⟩
abbrev cX3_rotationOfHead : ByteArray := prog_5_method_11_code
def yX3_rotationOfHead : MethodName := ⟨RX3, "rotationOfHead", "(I)I"⟩
abbrev cX3_rotationBackOfHead : ByteArray := prog_5_method_12_code
def yX3_rotationBackOfHead : MethodName := ⟨RX3, "rotationBackOfHead", "(I)I"⟩
abbrev cX3_imageOfZ : ByteArray := prog_5_method_13_code
def yX3_imageOfZ : MethodName := ⟨RX3, "imageOfZ", "(I)I"⟩
abbrev cX3_product : ByteArray := prog_5_method_14_code
def yX3_product : MethodName := ⟨RX3, "product", "(II)I"⟩
abbrev cX3_image : ByteArray := prog_5_method_15_code
def yX3_image : MethodName := ⟨RX3, "image", "(II)I"⟩
def RX4 : String := "RingCircuits$Signs"
def TX4 : u_T := fun k => match k with
  | 0 => ("RingCircuits$Signs", "x", "I", false)
  | 1 => ("RingCircuits$Signs", "z", "I", false)
  | _ => ("RingCircuits$Signs", "minus", "I", false)
def tyX4 : Nat → FieldType := fun k => match k with
  | 0 => .int
  | 1 => .int
  | _ => .int
abbrev wsX40 : List Cond := u_ws RX4 TX4 3
theorem nmX4 : ∀ a, a < 3 → ∀ b, b < 3 → a ≠ b → (TX4 a).2.1 ≠ (TX4 b).2.1 := by decide +kernel
theorem tyX4_ok : ∀ k, k < 3 → parseFieldDescriptor (TX4 k).2.2.1 = some (tyX4 k) := by decide +kernel
abbrev cX4_init : ByteArray := prog_6_method_1_code
def yX4_init : MethodName := ⟨RX4, "<init>", "()V"⟩
abbrev cX4_begin : ByteArray := prog_6_method_2_code
def yX4_begin : MethodName := ⟨RX4, "begin", "(I)V"⟩
abbrev cX4_bit : ByteArray := prog_6_method_3_code
def yX4_bit : MethodName := ⟨RX4, "bit", "(II)I"⟩
abbrev cX4_pass : ByteArray := prog_6_method_4_code
def yX4_pass : MethodName := ⟨RX4, "pass", "(I)V"⟩
abbrev cX4_passH : ByteArray := prog_6_method_5_code
def yX4_passH : MethodName := ⟨RX4, "passH", "(I)V"⟩
abbrev cX4_passCX : ByteArray := prog_6_method_6_code
def yX4_passCX : MethodName := ⟨RX4, "passCX", "(II)V"⟩
abbrev cX4_traded : ByteArray := prog_6_method_7_code
def yX4_traded : MethodName := ⟨RX4, "traded", "(III)I"⟩
abbrev cX4_digits : ByteArray := prog_6_method_8_code
def yX4_digits : MethodName := ⟨RX4, "digits", "()I"⟩
def RX5 : String := "RingCircuits$Text"
def TX5 : u_T := fun k => match k with
  | 0 => ("RingCircuits$Text", "characters", "[C", true)
  | 1 => ("RingCircuits$Text", "count", "I", false)
  | _ => ("RingCircuits$Text", "reached", "I", false)
def tyX5 : Nat → FieldType := fun k => match k with
  | 0 => .array .char
  | 1 => .int
  | _ => .int
abbrev wsX50 : List Cond := u_ws RX5 TX5 3
theorem nmX5 : ∀ a, a < 3 → ∀ b, b < 3 → a ≠ b → (TX5 a).2.1 ≠ (TX5 b).2.1 := by decide +kernel
theorem tyX5_ok : ∀ k, k < 3 → parseFieldDescriptor (TX5 k).2.2.1 = some (tyX5 k) := by decide +kernel
abbrev cX5_init : ByteArray := prog_7_method_1_code
def yX5_init : MethodName := ⟨RX5, "<init>", "()V"⟩
abbrev cX5_count : ByteArray := prog_7_method_2_code
def yX5_count : MethodName := ⟨RX5, "count", "()I"⟩
abbrev cX5_at : ByteArray := prog_7_method_3_code
def yX5_at : MethodName := ⟨RX5, "at", "(I)I"⟩
abbrev cX5_removeAll : ByteArray := prog_7_method_4_code
def yX5_removeAll : MethodName := ⟨RX5, "removeAll", "()V"⟩
abbrev cX5_addBytes : ByteArray := prog_7_method_5_code
def yX5_addBytes : MethodName := ⟨RX5, "addBytes", "(JI)Z"⟩
abbrev cX5_byteAt : ByteArray := prog_7_method_6_code
def yX5_byteAt : MethodName := ⟨RX5, "byteAt", "(JI)I"⟩
abbrev cX5_put : ByteArray := prog_7_method_7_code
def yX5_put : MethodName := ⟨RX5, "put", "(C)V"⟩
abbrev cX5_write : ByteArray := prog_7_method_8_code
def yX5_write : MethodName := ⟨RX5, "write", "(LRingCircuits$Circuit;)V"⟩
abbrev cX5_writeGate : ByteArray := prog_7_method_9_code
def yX5_writeGate : MethodName := ⟨RX5, "writeGate", "(I)V"⟩
abbrev cX5_parse : ByteArray := prog_7_method_10_code
def yX5_parse : MethodName := ⟨RX5, "parse", "(LRingCircuits$Circuit;I)I"⟩
abbrev cX5_parseGate : ByteArray := prog_7_method_11_code
def yX5_parseGate : MethodName := ⟨RX5, "parseGate", "(I)I"⟩
def RX6 : String := "RingCircuits"
def TX6 : u_T := fun k => match k with
  | 0 => ("RingCircuits", "first", "LRingCircuits$Circuit;", true)
  | 1 => ("RingCircuits", "second", "LRingCircuits$Circuit;", true)
  | 2 => ("RingCircuits", "third", "LRingCircuits$Circuit;", true)
  | 3 => ("RingCircuits", "spare", "LRingCircuits$Circuit;", true)
  | 4 => ("RingCircuits", "amplitudes", "LRingCircuits$Column;", true)
  | 5 => ("RingCircuits", "left", "LRingCircuits$Column;", true)
  | 6 => ("RingCircuits", "right", "LRingCircuits$Column;", true)
  | 7 => ("RingCircuits", "signs", "LRingCircuits$Signs;", true)
  | 8 => ("RingCircuits", "form", "LRingCircuits$LeastForm;", true)
  | 9 => ("RingCircuits", "text", "LRingCircuits$Text;", true)
  | 10 => ("RingCircuits", "wireCount", "I", false)
  | 11 => ("RingCircuits", "hasState", "Z", false)
  | 12 => ("RingCircuits", "phase", "I", false)
  | _ => ("RingCircuits", "place", "I", false)
def tyX6 : Nat → FieldType := fun k => match k with
  | 0 => .object "RingCircuits$Circuit"
  | 1 => .object "RingCircuits$Circuit"
  | 2 => .object "RingCircuits$Circuit"
  | 3 => .object "RingCircuits$Circuit"
  | 4 => .object "RingCircuits$Column"
  | 5 => .object "RingCircuits$Column"
  | 6 => .object "RingCircuits$Column"
  | 7 => .object "RingCircuits$Signs"
  | 8 => .object "RingCircuits$LeastForm"
  | 9 => .object "RingCircuits$Text"
  | 10 => .int
  | 11 => .boolean
  | 12 => .int
  | _ => .int
abbrev wsX60 : List Cond := u_ws RX6 TX6 14
theorem nmX6 : ∀ a, a < 14 → ∀ b, b < 14 → a ≠ b → (TX6 a).2.1 ≠ (TX6 b).2.1 := by decide +kernel
theorem tyX6_ok : ∀ k, k < 14 → parseFieldDescriptor (TX6 k).2.2.1 = some (tyX6 k) := by decide +kernel
abbrev cX6_init : ByteArray := prog_1_method_1_code
def yX6_init : MethodName := ⟨RX6, "<init>", "()V"⟩
abbrev cX6_wires : ByteArray := prog_1_method_2_code
def yX6_wires : MethodName := ⟨RX6, "wires", "(I)V"⟩
abbrev cX6_gate : ByteArray := prog_1_method_3_code
def yX6_gate : MethodName := ⟨RX6, "gate", "(IIIII)I"⟩
abbrev cX6_size : ByteArray := prog_1_method_4_code
def yX6_size : MethodName := ⟨RX6, "size", "(I)I"⟩
abbrev cX6_gateAt : ByteArray := prog_1_method_5_code
def yX6_gateAt : MethodName := ⟨RX6, "gateAt", "(II)I"⟩
abbrev cX6_clear : ByteArray := prog_1_method_6_code
def yX6_clear : MethodName := ⟨RX6, "clear", "(I)V"⟩
abbrev cX6_append : ByteArray := prog_1_method_7_code
def yX6_append : MethodName := ⟨RX6, "append", "(II)I"⟩
abbrev cX6_inverse : ByteArray := prog_1_method_8_code
def yX6_inverse : MethodName := ⟨RX6, "inverse", "(I)I"⟩
abbrev cX6_expand : ByteArray := prog_1_method_9_code
def yX6_expand : MethodName := ⟨RX6, "expand", "(I)I"⟩
abbrev cX6_optimise : ByteArray := prog_1_method_10_code
def yX6_optimise : MethodName := ⟨RX6, "optimise", "(I)I"⟩
abbrev cX6_least : ByteArray := prog_1_method_11_code
def yX6_least : MethodName := ⟨RX6, "least", "(I)I"⟩
abbrev cX6_equal : ByteArray := prog_1_method_12_code
def yX6_equal : MethodName := ⟨RX6, "equal", "(II)I"⟩
abbrev cX6_phase : ByteArray := prog_1_method_13_code
def yX6_phase : MethodName := ⟨RX6, "phase", "()I"⟩
abbrev cX6_differ : ByteArray := prog_1_method_14_code
def yX6_differ : MethodName := ⟨RX6, "differ", "(II)I"⟩
abbrev cX6_state : ByteArray := prog_1_method_15_code
def yX6_state : MethodName := ⟨RX6, "state", "(I)I"⟩
abbrev cX6_amplitude : ByteArray := prog_1_method_16_code
def yX6_amplitude : MethodName := ⟨RX6, "amplitude", "(II)J"⟩
abbrev cX6_scale : ByteArray := prog_1_method_17_code
def yX6_scale : MethodName := ⟨RX6, "scale", "()I"⟩
abbrev cX6_weight : ByteArray := prog_1_method_18_code
def yX6_weight : MethodName := ⟨RX6, "weight", "(III)J"⟩
abbrev cX6_measure : ByteArray := prog_1_method_19_code
def yX6_measure : MethodName := ⟨RX6, "measure", "(II)Z"⟩
abbrev cX6_row : ByteArray := prog_1_method_20_code
def yX6_row : MethodName := ⟨RX6, "row", "(II)I"⟩
abbrev cX6_type : ByteArray := prog_1_method_21_code
def yX6_type : MethodName := ⟨RX6, "type", "(JI)I"⟩
abbrev cX6_print : ByteArray := prog_1_method_22_code
def yX6_print : MethodName := ⟨RX6, "print", "(I)I"⟩
abbrev cX6_character : ByteArray := prog_1_method_23_code
def yX6_character : MethodName := ⟨RX6, "character", "(I)I"⟩
abbrev cX6_read : ByteArray := prog_1_method_24_code
def yX6_read : MethodName := ⟨RX6, "read", "(I)I"⟩
abbrev cX6_place : ByteArray := prog_1_method_25_code
def yX6_place : MethodName := ⟨RX6, "place", "()I"⟩
abbrev cX6_inSlot : ByteArray := prog_1_method_26_code
def yX6_inSlot : MethodName := ⟨RX6, "inSlot", "(I)LRingCircuits$Circuit;"⟩
abbrev cX6_isWire : ByteArray := prog_1_method_27_code
def yX6_isWire : MethodName := ⟨RX6, "isWire", "(I)Z"⟩
abbrev cX6_basisStates : ByteArray := prog_1_method_28_code
def yX6_basisStates : MethodName := ⟨RX6, "basisStates", "()I"⟩
abbrev cX6_runBoth : ByteArray := prog_1_method_29_code
def yX6_runBoth : MethodName := ⟨RX6, "runBoth", "(LRingCircuits$Circuit;LRingCircuits$Circuit;I)V"⟩
abbrev cX6_firstTurn : ByteArray := prog_1_method_30_code
def yX6_firstTurn : MethodName := ⟨RX6, "firstTurn", "(LRingCircuits$Circuit;LRingCircuits$Circuit;)I"⟩
abbrev cX6_isTurned : ByteArray := prog_1_method_31_code
def yX6_isTurned : MethodName := ⟨RX6, "isTurned", "(LRingCircuits$Circuit;LRingCircuits$Circuit;I)Z"⟩
def RX7 : String := "RingCircuitsModel"
def TX7 : u_T := fun k => match k with
  | 0 => ("RingCircuitsModel", "fault", "I", false)
  | 1 => ("RingCircuitsModel", "wires", "I", false)
  | 2 => ("RingCircuitsModel", "size", "[I", true)
  | 3 => ("RingCircuitsModel", "kind", "[I", true)
  | 4 => ("RingCircuitsModel", "one", "[I", true)
  | 5 => ("RingCircuitsModel", "two", "[I", true)
  | 6 => ("RingCircuitsModel", "three", "[I", true)
  | 7 => ("RingCircuitsModel", "phase", "I", false)
  | 8 => ("RingCircuitsModel", "hasState", "Z", false)
  | 9 => ("RingCircuitsModel", "scale", "I", false)
  | 10 => ("RingCircuitsModel", "state", "[J", true)
  | 11 => ("RingCircuitsModel", "first", "[J", true)
  | 12 => ("RingCircuitsModel", "firstScale", "I", false)
  | 13 => ("RingCircuitsModel", "other", "[J", true)
  | 14 => ("RingCircuitsModel", "otherScale", "I", false)
  | 15 => ("RingCircuitsModel", "length", "I", false)
  | 16 => ("RingCircuitsModel", "text", "[I", true)
  | 17 => ("RingCircuitsModel", "place", "I", false)
  | 18 => ("RingCircuitsModel", "rounds", "I", false)
  | 19 => ("RingCircuitsModel", "round", "[I", true)
  | 20 => ("RingCircuitsModel", "handX", "I", false)
  | 21 => ("RingCircuitsModel", "handZ", "I", false)
  | 22 => ("RingCircuitsModel", "leftX", "I", false)
  | 23 => ("RingCircuitsModel", "leftZ", "I", false)
  | 24 => ("RingCircuitsModel", "found", "I", false)
  | 25 => ("RingCircuitsModel", "foundX", "[I", true)
  | 26 => ("RingCircuitsModel", "foundZ", "[I", true)
  | 27 => ("RingCircuitsModel", "from", "[I", true)
  | 28 => ("RingCircuitsModel", "letter", "[I", true)
  | 29 => ("RingCircuitsModel", "restX", "I", false)
  | _ => ("RingCircuitsModel", "restZ", "I", false)
def tyX7 : Nat → FieldType := fun k => match k with
  | 0 => .int
  | 1 => .int
  | 2 => .array .int
  | 3 => .array .int
  | 4 => .array .int
  | 5 => .array .int
  | 6 => .array .int
  | 7 => .int
  | 8 => .boolean
  | 9 => .int
  | 10 => .array .long
  | 11 => .array .long
  | 12 => .int
  | 13 => .array .long
  | 14 => .int
  | 15 => .int
  | 16 => .array .int
  | 17 => .int
  | 18 => .int
  | 19 => .array .int
  | 20 => .int
  | 21 => .int
  | 22 => .int
  | 23 => .int
  | 24 => .int
  | 25 => .array .int
  | 26 => .array .int
  | 27 => .array .int
  | 28 => .array .int
  | 29 => .int
  | _ => .int
abbrev wsX70 : List Cond := u_ws RX7 TX7 31
theorem nmX7 : ∀ a, a < 31 → ∀ b, b < 31 → a ≠ b → (TX7 a).2.1 ≠ (TX7 b).2.1 := by decide +kernel
theorem tyX7_ok : ∀ k, k < 31 → parseFieldDescriptor (TX7 k).2.2.1 = some (tyX7 k) := by decide +kernel
abbrev cX7_init : ByteArray := prog_9_method_1_code
def yX7_init : MethodName := ⟨RX7, "<init>", "()V"⟩
abbrev cX7_thrown : ByteArray := prog_9_method_2_code
def yX7_thrown : MethodName := ⟨RX7, "thrown", "()I"⟩
abbrev cX7_in : ByteArray := prog_9_method_3_code
def yX7_in : MethodName := ⟨RX7, "in", "(JJJ)Z"⟩
abbrev cX7_isSlot : ByteArray := prog_9_method_4_code
def yX7_isSlot : MethodName := ⟨RX7, "isSlot", "(I)Z"⟩
abbrev cX7_wires : ByteArray := prog_9_method_5_code
def yX7_wires : MethodName := ⟨RX7, "wires", "(I)V"⟩
abbrev cX7_needs : ByteArray := prog_9_method_6_code
def yX7_needs : MethodName := ⟨RX7, "needs", "(I)I"⟩
abbrev cX7_put : ByteArray := prog_9_method_7_code
def yX7_put : MethodName := ⟨RX7, "put", "(IIIII)V"⟩
abbrev cX7_isWire : ByteArray := prog_9_method_8_code
def yX7_isWire : MethodName := ⟨RX7, "isWire", "(I)Z"⟩
abbrev cX7_isGate : ByteArray := prog_9_method_9_code
def yX7_isGate : MethodName := ⟨RX7, "isGate", "(IIII)Z"⟩
abbrev cX7_gate : ByteArray := prog_9_method_10_code
def yX7_gate : MethodName := ⟨RX7, "gate", "(IIIII)I"⟩
abbrev cX7_size : ByteArray := prog_9_method_11_code
def yX7_size : MethodName := ⟨RX7, "size", "(I)I"⟩
abbrev cX7_gateAt : ByteArray := prog_9_method_12_code
def yX7_gateAt : MethodName := ⟨RX7, "gateAt", "(II)I"⟩
abbrev cX7_clear : ByteArray := prog_9_method_13_code
def yX7_clear : MethodName := ⟨RX7, "clear", "(I)V"⟩
abbrev cX7_copyGate : ByteArray := prog_9_method_14_code
def yX7_copyGate : MethodName := ⟨RX7, "copyGate", "(II)V"⟩
abbrev cX7_copy : ByteArray := prog_9_method_15_code
def yX7_copy : MethodName := ⟨RX7, "copy", "(II)V"⟩
abbrev cX7_append : ByteArray := prog_9_method_16_code
def yX7_append : MethodName := ⟨RX7, "append", "(II)I"⟩
abbrev cX7_turnsOf : ByteArray := prog_9_method_17_code
def yX7_turnsOf : MethodName := ⟨RX7, "turnsOf", "(I)I"⟩
abbrev cX7_inverse : ByteArray := prog_9_method_18_code
def yX7_inverse : MethodName := ⟨RX7, "inverse", "(I)I"⟩
abbrev cX7_putBack : ByteArray := prog_9_method_19_code
def yX7_putBack : MethodName := ⟨RX7, "putBack", "(I)V"⟩
abbrev cX7_expandOne : ByteArray := prog_9_method_20_code
def yX7_expandOne : MethodName := ⟨RX7, "expandOne", "(III)V"⟩
abbrev cX7_expand : ByteArray := prog_9_method_21_code
def yX7_expand : MethodName := ⟨RX7, "expand", "(I)I"⟩
abbrev cX7_samePair : ByteArray := prog_9_method_22_code
def yX7_samePair : MethodName := ⟨RX7, "samePair", "(II)Z"⟩
abbrev cX7_cancels : ByteArray := prog_9_method_23_code
def yX7_cancels : MethodName := ⟨RX7, "cancels", "(II)Z"⟩
abbrev cX7_together : ByteArray := prog_9_method_24_code
def yX7_together : MethodName := ⟨RX7, "together", "(II)I"⟩
abbrev cX7_has : ByteArray := prog_9_method_25_code
def yX7_has : MethodName := ⟨RX7, "has", "(II)Z"⟩
abbrev cX7_shares : ByteArray := prog_9_method_26_code
def yX7_shares : MethodName := ⟨RX7, "shares", "(II)Z"⟩
abbrev cX7_isStraight : ByteArray := prog_9_method_27_code
def yX7_isStraight : MethodName := ⟨RX7, "isStraight", "(I)Z"⟩
abbrev cX7_goesBy : ByteArray := prog_9_method_28_code
def yX7_goesBy : MethodName := ⟨RX7, "goesBy", "(II)Z"⟩
abbrev cX7_passes : ByteArray := prog_9_method_29_code
def yX7_passes : MethodName := ⟨RX7, "passes", "(II)Z"⟩
abbrev cX7_remove : ByteArray := prog_9_method_30_code
def yX7_remove : MethodName := ⟨RX7, "remove", "(II)V"⟩
abbrev cX7_meetOnce : ByteArray := prog_9_method_31_code
def yX7_meetOnce : MethodName := ⟨RX7, "meetOnce", "(I)Z"⟩
abbrev cX7_optimise : ByteArray := prog_9_method_32_code
def yX7_optimise : MethodName := ⟨RX7, "optimise", "(I)I"⟩
abbrev cX7_basis : ByteArray := prog_9_method_33_code
def yX7_basis : MethodName := ⟨RX7, "basis", "()I"⟩
abbrev cX7_turn : ByteArray := prog_9_method_34_code
def yX7_turn : MethodName := ⟨RX7, "turn", "([JII)V"⟩
abbrev cX7_grow : ByteArray := prog_9_method_35_code
def yX7_grow : MethodName := ⟨RX7, "grow", "([JI)V"⟩
abbrev cX7_change : ByteArray := prog_9_method_36_code
def yX7_change : MethodName := ⟨RX7, "change", "([JII)V"⟩
abbrev cX7_mix : ByteArray := prog_9_method_37_code
def yX7_mix : MethodName := ⟨RX7, "mix", "([JII)V"⟩
abbrev cX7_bit : ByteArray := prog_9_method_38_code
def yX7_bit : MethodName := ⟨RX7, "bit", "(II)Z"⟩
abbrev cX7_act : ByteArray := prog_9_method_39_code
def yX7_act : MethodName := ⟨RX7, "act", "([JI)V"⟩
abbrev cX7_column : ByteArray := prog_9_method_40_code
def yX7_column : MethodName := ⟨RX7, "column", "(II[J)I"⟩
abbrev cX7_both : ByteArray := prog_9_method_41_code
def yX7_both : MethodName := ⟨RX7, "both", "(III)V"⟩
abbrev cX7_isTurned : ByteArray := prog_9_method_42_code
def yX7_isTurned : MethodName := ⟨RX7, "isTurned", "(III)Z"⟩
abbrev cX7_equal : ByteArray := prog_9_method_43_code
def yX7_equal : MethodName := ⟨RX7, "equal", "(II)I"⟩
abbrev cX7_phase : ByteArray := prog_9_method_44_code
def yX7_phase : MethodName := ⟨RX7, "phase", "()I"⟩
abbrev cX7_differ : ByteArray := prog_9_method_45_code
def yX7_differ : MethodName := ⟨RX7, "differ", "(II)I"⟩
abbrev cX7_size2 : ByteArray := prog_9_method_46_code
def yX7_size2 : MethodName := ⟨RX7, "size2", "(I)I"⟩
abbrev cX7_product : ByteArray := prog_9_method_47_code
def yX7_product : MethodName := ⟨RX7, "product", "(II)I"⟩
abbrev cX7_image : ByteArray := prog_9_method_48_code
def yX7_image : MethodName := ⟨RX7, "image", "(I)I"⟩
abbrev cX7_joinLeft : ByteArray := prog_9_method_49_code
def yX7_joinLeft : MethodName := ⟨RX7, "joinLeft", "()V"⟩
abbrev cX7_setLeft : ByteArray := prog_9_method_50_code
def yX7_setLeft : MethodName := ⟨RX7, "setLeft", "(I)V"⟩
abbrev cX7_joinBackS : ByteArray := prog_9_method_51_code
def yX7_joinBackS : MethodName := ⟨RX7, "joinBackS", "()V"⟩
abbrev cX7_carry : ByteArray := prog_9_method_52_code
def yX7_carry : MethodName := ⟨RX7, "carry", "(I)V"⟩
abbrev cX7_timesRight : ByteArray := prog_9_method_53_code
def yX7_timesRight : MethodName := ⟨RX7, "timesRight", "(I)V"⟩
abbrev cX7_addRound : ByteArray := prog_9_method_54_code
def yX7_addRound : MethodName := ⟨RX7, "addRound", "()V"⟩
abbrev cX7_dropRound : ByteArray := prog_9_method_55_code
def yX7_dropRound : MethodName := ⟨RX7, "dropRound", "()V"⟩
abbrev cX7_takeGate : ByteArray := prog_9_method_56_code
def yX7_takeGate : MethodName := ⟨RX7, "takeGate", "(I)V"⟩
abbrev cX7_findElement : ByteArray := prog_9_method_57_code
def yX7_findElement : MethodName := ⟨RX7, "findElement", "(II)I"⟩
abbrev cX7_findWords : ByteArray := prog_9_method_58_code
def yX7_findWords : MethodName := ⟨RX7, "findWords", "()V"⟩
abbrev cX7_putWord : ByteArray := prog_9_method_59_code
def yX7_putWord : MethodName := ⟨RX7, "putWord", "(II)V"⟩
abbrev cX7_least : ByteArray := prog_9_method_60_code
def yX7_least : MethodName := ⟨RX7, "least", "(I)I"⟩
abbrev cX7_lower : ByteArray := prog_9_method_61_code
def yX7_lower : MethodName := ⟨RX7, "lower", "()V"⟩
abbrev cX7_state : ByteArray := prog_9_method_62_code
def yX7_state : MethodName := ⟨RX7, "state", "(I)I"⟩
abbrev cX7_amplitude : ByteArray := prog_9_method_63_code
def yX7_amplitude : MethodName := ⟨RX7, "amplitude", "(II)J"⟩
abbrev cX7_scale : ByteArray := prog_9_method_64_code
def yX7_scale : MethodName := ⟨RX7, "scale", "()I"⟩
abbrev cX7_weight : ByteArray := prog_9_method_65_code
def yX7_weight : MethodName := ⟨RX7, "weight", "(III)J"⟩
abbrev cX7_measure : ByteArray := prog_9_method_66_code
def yX7_measure : MethodName := ⟨RX7, "measure", "(II)Z"⟩
abbrev cX7_row : ByteArray := prog_9_method_67_code
def yX7_row : MethodName := ⟨RX7, "row", "(II)I"⟩
abbrev cX7_type : ByteArray := prog_9_method_68_code
def yX7_type : MethodName := ⟨RX7, "type", "(JI)I"⟩
abbrev cX7_letterOf : ByteArray := prog_9_method_69_code
def yX7_letterOf : MethodName := ⟨RX7, "letterOf", "(I)I"⟩
abbrev cX7_say : ByteArray := prog_9_method_70_code
def yX7_say : MethodName := ⟨RX7, "say", "(I)V"⟩
abbrev cX7_print : ByteArray := prog_9_method_71_code
def yX7_print : MethodName := ⟨RX7, "print", "(I)I"⟩
abbrev cX7_character : ByteArray := prog_9_method_72_code
def yX7_character : MethodName := ⟨RX7, "character", "(I)I"⟩
abbrev cX7_kindAt : ByteArray := prog_9_method_73_code
def yX7_kindAt : MethodName := ⟨RX7, "kindAt", "(I)I"⟩
abbrev cX7_wireAt : ByteArray := prog_9_method_74_code
def yX7_wireAt : MethodName := ⟨RX7, "wireAt", "(I)I"⟩
abbrev cX7_readGate : ByteArray := prog_9_method_75_code
def yX7_readGate : MethodName := ⟨RX7, "readGate", "(I)I"⟩
abbrev cX7_read : ByteArray := prog_9_method_76_code
def yX7_read : MethodName := ⟨RX7, "read", "(I)I"⟩
abbrev cX7_place : ByteArray := prog_9_method_77_code
def yX7_place : MethodName := ⟨RX7, "place", "()I"⟩
def RJx145de : String := "java/io/Serializable"
def TJx145de : u_T := fun k => match k with
  | _ => ("", "", "", false)
def tyJx145de : Nat → FieldType := fun k => match k with
  | _ => .int
abbrev wsJx145de0 : List Cond := u_ws RJx145de TJx145de 0
theorem nmJx145de : ∀ a, a < 0 → ∀ b, b < 0 → a ≠ b → (TJx145de a).2.1 ≠ (TJx145de b).2.1 := by decide +kernel
theorem tyJx145de_ok : ∀ k, k < 0 → parseFieldDescriptor (TJx145de k).2.2.1 = some (tyJx145de k) := by decide +kernel
def RJx9f9b0 : String := "java/lang/CharSequence"
def TJx9f9b0 : u_T := fun k => match k with
  | _ => ("", "", "", false)
def tyJx9f9b0 : Nat → FieldType := fun k => match k with
  | _ => .int
abbrev wsJx9f9b00 : List Cond := u_ws RJx9f9b0 TJx9f9b0 0
theorem nmJx9f9b0 : ∀ a, a < 0 → ∀ b, b < 0 → a ≠ b → (TJx9f9b0 a).2.1 ≠ (TJx9f9b0 b).2.1 := by decide +kernel
theorem tyJx9f9b0_ok : ∀ k, k < 0 → parseFieldDescriptor (TJx9f9b0 k).2.2.1 = some (tyJx9f9b0 k) := by decide +kernel
def RJ11 : String := "java/lang/Character"
def TJ11 : u_T := fun k => match k with
  | _ => ("", "", "", false)
def tyJ11 : Nat → FieldType := fun k => match k with
  | _ => .int
abbrev wsJ110 : List Cond := u_ws RJ11 TJ11 0
theorem nmJ11 : ∀ a, a < 0 → ∀ b, b < 0 → a ≠ b → (TJ11 a).2.1 ≠ (TJ11 b).2.1 := by decide +kernel
theorem tyJ11_ok : ∀ k, k < 0 → parseFieldDescriptor (TJ11 k).2.2.1 = some (tyJ11 k) := by decide +kernel
abbrev cJ11_isValidCodePoint_9a6ad : ByteArray := prog_10_method_11_code
def yJ11_isValidCodePoint_9a6ad : MethodName := ⟨RJ11, "isValidCodePoint", "(I)Z"⟩
abbrev cJ11_highSurrogate_5068e : ByteArray := prog_10_method_28_code
def yJ11_highSurrogate_5068e : MethodName := ⟨RJ11, "highSurrogate", "(I)C"⟩
abbrev cJ11_lowSurrogate_5068e : ByteArray := prog_10_method_29_code
def yJ11_lowSurrogate_5068e : MethodName := ⟨RJ11, "lowSurrogate", "(I)C"⟩
def RJxb160c : String := "java/lang/Comparable"
def TJxb160c : u_T := fun k => match k with
  | _ => ("", "", "", false)
def tyJxb160c : Nat → FieldType := fun k => match k with
  | _ => .int
abbrev wsJxb160c0 : List Cond := u_ws RJxb160c TJxb160c 0
theorem nmJxb160c : ∀ a, a < 0 → ∀ b, b < 0 → a ≠ b → (TJxb160c a).2.1 ≠ (TJxb160c b).2.1 := by decide +kernel
theorem tyJxb160c_ok : ∀ k, k < 0 → parseFieldDescriptor (TJxb160c k).2.2.1 = some (tyJxb160c k) := by decide +kernel
def RJ9 : String := "java/lang/Math"
def TJ9 : u_T := fun k => match k with
  | _ => ("", "", "", false)
def tyJ9 : Nat → FieldType := fun k => match k with
  | _ => .int
abbrev wsJ90 : List Cond := u_ws RJ9 TJ9 0
theorem nmJ9 : ∀ a, a < 0 → ∀ b, b < 0 → a ≠ b → (TJ9 a).2.1 ≠ (TJ9 b).2.1 := by decide +kernel
theorem tyJ9_ok : ∀ k, k < 0 → parseFieldDescriptor (TJ9 k).2.2.1 = some (tyJ9 k) := by decide +kernel
abbrev cJ9_max_7cf53 : ByteArray := prog_15_method_65_code
def yJ9_max_7cf53 : MethodName := ⟨RJ9, "max", "(II)I"⟩
abbrev cJ9_min_7cf53 : ByteArray := prog_15_method_69_code
def yJ9_min_7cf53 : MethodName := ⟨RJ9, "min", "(II)I"⟩
def RJ0 : String := "java/lang/String"
def TJ0 : u_T := fun k => match k with
  | _ => ("", "", "", false)
def tyJ0 : Nat → FieldType := fun k => match k with
  | _ => .int
abbrev wsJ00 : List Cond := u_ws RJ0 TJ0 0
theorem nmJ0 : ∀ a, a < 0 → ∀ b, b < 0 → a ≠ b → (TJ0 a).2.1 ≠ (TJ0 b).2.1 := by decide +kernel
theorem tyJ0_ok : ∀ k, k < 0 → parseFieldDescriptor (TJ0 k).2.2.1 = some (tyJ0 k) := by decide +kernel
abbrev cJ0_length_8abf5 : ByteArray := prog_17_method_54_code
def yJ0_length_8abf5 : MethodName := ⟨RJ0, "length", "()I"⟩
abbrev cJ0_charAt_5068e : ByteArray := prog_17_method_56_code
def yJ0_charAt_5068e : MethodName := ⟨RJ0, "charAt", "(I)C"⟩
abbrev cJ0_indexOf_0f7a4 : ByteArray := prog_17_method_79_code
def yJ0_indexOf_0f7a4 : MethodName := ⟨RJ0, "indexOf", "(I)I"⟩
abbrev cJ0_indexOf_7cf53 : ByteArray := prog_17_method_80_code
def yJ0_indexOf_7cf53 : MethodName := ⟨RJ0, "indexOf", "(II)I"⟩
abbrev cJ0_coder_7d493 : ByteArray := prog_17_method_152_code
def yJ0_coder_7d493 : MethodName := ⟨RJ0, "coder", "()B"⟩
abbrev cJ0_isLatin1_aae02 : ByteArray := prog_17_method_154_code
def yJ0_isLatin1_aae02 : MethodName := ⟨RJ0, "isLatin1", "()Z"⟩
abbrev cJ0_checkIndex_df160 : ByteArray := prog_17_method_155_code
def yJ0_checkIndex_df160 : MethodName := ⟨RJ0, "checkIndex", "(II)V"⟩
abbrev cJ0_checkBoundsBeginEnd_23922 : ByteArray := prog_17_method_158_code
def yJ0_checkBoundsBeginEnd_23922 : MethodName := ⟨RJ0, "checkBoundsBeginEnd", "(III)V"⟩
def RJ1 : String := "java/lang/StringLatin1"
def TJ1 : u_T := fun k => match k with
  | _ => ("", "", "", false)
def tyJ1 : Nat → FieldType := fun k => match k with
  | _ => .int
abbrev wsJ10 : List Cond := u_ws RJ1 TJ1 0
theorem nmJ1 : ∀ a, a < 0 → ∀ b, b < 0 → a ≠ b → (TJ1 a).2.1 ≠ (TJ1 b).2.1 := by decide +kernel
theorem tyJ1_ok : ∀ k, k < 0 → parseFieldDescriptor (TJ1 k).2.2.1 = some (tyJ1 k) := by decide +kernel
abbrev cJ1_charAt_3b067 : ByteArray := prog_18_method_2_code
def yJ1_charAt_3b067 : MethodName := ⟨RJ1, "charAt", "([BI)C"⟩
abbrev cJ1_canEncode_9a6ad : ByteArray := prog_18_method_4_code
def yJ1_canEncode_9a6ad : MethodName := ⟨RJ1, "canEncode", "(I)Z"⟩
abbrev cJ1_indexOf_4cfef : ByteArray := prog_18_method_22_code
def yJ1_indexOf_4cfef : MethodName := ⟨RJ1, "indexOf", "([BIII)I"⟩
abbrev cJ1_indexOfChar_4cfef : ByteArray := prog_18_method_23_code
def yJ1_indexOfChar_4cfef : MethodName := ⟨RJ1, "indexOfChar", "([BIII)I"⟩
def RJ2 : String := "java/lang/StringUTF16"
def TJ2 : u_T := fun k => match k with
  | _ => ("", "", "", false)
def tyJ2 : Nat → FieldType := fun k => match k with
  | _ => .int
abbrev wsJ20 : List Cond := u_ws RJ2 TJ2 0
theorem nmJ2 : ∀ a, a < 0 → ∀ b, b < 0 → a ≠ b → (TJ2 a).2.1 ≠ (TJ2 b).2.1 := by decide +kernel
theorem tyJ2_ok : ∀ k, k < 0 → parseFieldDescriptor (TJ2 k).2.2.1 = some (tyJ2 k) := by decide +kernel
abbrev cJ2_getChar_3b067 : ByteArray := prog_19_method_5_code
def yJ2_getChar_3b067 : MethodName := ⟨RJ2, "getChar", "([BI)C"⟩
abbrev cJ2_length_9d52b : ByteArray := prog_19_method_6_code
def yJ2_length_9d52b : MethodName := ⟨RJ2, "length", "([B)I"⟩
abbrev cJ2_indexOf_4cfef : ByteArray := prog_19_method_40_code
def yJ2_indexOf_4cfef : MethodName := ⟨RJ2, "indexOf", "([BIII)I"⟩
abbrev cJ2_indexOfChar_4cfef : ByteArray := prog_19_method_47_code
def yJ2_indexOfChar_4cfef : MethodName := ⟨RJ2, "indexOfChar", "([BIII)I"⟩
abbrev cJ2_indexOfCharUnsafe_4cfef : ByteArray := prog_19_method_48_code
def yJ2_indexOfCharUnsafe_4cfef : MethodName := ⟨RJ2, "indexOfCharUnsafe", "([BIII)I"⟩
abbrev cJ2_indexOfSupplementary_4cfef : ByteArray := prog_19_method_49_code
def yJ2_indexOfSupplementary_4cfef : MethodName := ⟨RJ2, "indexOfSupplementary", "([BIII)I"⟩
abbrev cJ2_charAt_3b067 : ByteArray := prog_19_method_83_code
def yJ2_charAt_3b067 : MethodName := ⟨RJ2, "charAt", "([BI)C"⟩
abbrev cJ2_checkIndex_2214a : ByteArray := prog_19_method_91_code
def yJ2_checkIndex_2214a : MethodName := ⟨RJ2, "checkIndex", "(I[B)V"⟩
abbrev cJ2_checkBoundsBeginEnd_d044e : ByteArray := prog_19_method_93_code
def yJ2_checkBoundsBeginEnd_d044e : MethodName := ⟨RJ2, "checkBoundsBeginEnd", "(II[B)V"⟩
def RJxfd54e : String := "java/lang/constant/Constable"
def TJxfd54e : u_T := fun k => match k with
  | _ => ("", "", "", false)
def tyJxfd54e : Nat → FieldType := fun k => match k with
  | _ => .int
abbrev wsJxfd54e0 : List Cond := u_ws RJxfd54e TJxfd54e 0
theorem nmJxfd54e : ∀ a, a < 0 → ∀ b, b < 0 → a ≠ b → (TJxfd54e a).2.1 ≠ (TJxfd54e b).2.1 := by decide +kernel
theorem tyJxfd54e_ok : ∀ k, k < 0 → parseFieldDescriptor (TJxfd54e k).2.2.1 = some (tyJxfd54e k) := by decide +kernel
def RJx3cf43 : String := "java/lang/constant/ConstantDesc"
def TJx3cf43 : u_T := fun k => match k with
  | _ => ("", "", "", false)
def tyJx3cf43 : Nat → FieldType := fun k => match k with
  | _ => .int
abbrev wsJx3cf430 : List Cond := u_ws RJx3cf43 TJx3cf43 0
theorem nmJx3cf43 : ∀ a, a < 0 → ∀ b, b < 0 → a ≠ b → (TJx3cf43 a).2.1 ≠ (TJx3cf43 b).2.1 := by decide +kernel
theorem tyJx3cf43_ok : ∀ k, k < 0 → parseFieldDescriptor (TJx3cf43 k).2.2.1 = some (tyJx3cf43 k) := by decide +kernel
def RJ7 : String := "java/util/Arrays"
def TJ7 : u_T := fun k => match k with
  | _ => ("", "", "", false)
def tyJ7 : Nat → FieldType := fun k => match k with
  | _ => .int
abbrev wsJ70 : List Cond := u_ws RJ7 TJ7 0
theorem nmJ7 : ∀ a, a < 0 → ∀ b, b < 0 → a ≠ b → (TJ7 a).2.1 ≠ (TJ7 b).2.1 := by decide +kernel
theorem tyJ7_ok : ∀ k, k < 0 → parseFieldDescriptor (TJ7 k).2.2.1 = some (tyJ7 k) := by decide +kernel
abbrev cJ7_fill_d0a16 : ByteArray := prog_21_method_101_code
def yJ7_fill_d0a16 : MethodName := ⟨RJ7, "fill", "([JJ)V"⟩
def RJ3 : String := "jdk/internal/util/Preconditions"
def TJ3 : u_T := fun k => match k with
  | _ => ("", "", "", false)
def tyJ3 : Nat → FieldType := fun k => match k with
  | _ => .int
abbrev wsJ30 : List Cond := u_ws RJ3 TJ3 0
theorem nmJ3 : ∀ a, a < 0 → ∀ b, b < 0 → a ≠ b → (TJ3 a).2.1 ≠ (TJ3 b).2.1 := by decide +kernel
theorem tyJ3_ok : ∀ k, k < 0 → parseFieldDescriptor (TJ3 k).2.2.1 = some (tyJ3 k) := by decide +kernel
abbrev cJ3_checkIndex_8e157 : ByteArray := prog_22_method_11_code
def yJ3_checkIndex_8e157 : MethodName := ⟨RJ3, "checkIndex", "(IILjava/util/function/BiFunction;)I"⟩
abbrev cJ3_checkFromToIndex_8c36e : ByteArray := prog_22_method_12_code
def yJ3_checkFromToIndex_8c36e : MethodName := ⟨RJ3, "checkFromToIndex", "(IIILjava/util/function/BiFunction;)I"⟩
def RL : String := "RingCircuitsLaw"
abbrev cL_wires : ByteArray := method_3_code
def yL_wires : MethodName := ⟨RL, "wires", "(LRingCircuits;I)I"⟩
abbrev cL_gate : ByteArray := method_4_code
def yL_gate : MethodName := ⟨RL, "gate", "(LRingCircuits;IIIII[J)I"⟩
abbrev cL_clear : ByteArray := method_5_code
def yL_clear : MethodName := ⟨RL, "clear", "(LRingCircuits;I)I"⟩
abbrev cL_append : ByteArray := method_6_code
def yL_append : MethodName := ⟨RL, "append", "(LRingCircuits;II[J)I"⟩
abbrev cL_inverse : ByteArray := method_7_code
def yL_inverse : MethodName := ⟨RL, "inverse", "(LRingCircuits;I[J)I"⟩
abbrev cL_expand : ByteArray := method_8_code
def yL_expand : MethodName := ⟨RL, "expand", "(LRingCircuits;I[J)I"⟩
abbrev cL_optimise : ByteArray := method_9_code
def yL_optimise : MethodName := ⟨RL, "optimise", "(LRingCircuits;I[J)I"⟩
abbrev cL_least : ByteArray := method_10_code
def yL_least : MethodName := ⟨RL, "least", "(LRingCircuits;I[J)I"⟩
abbrev cL_equal : ByteArray := method_11_code
def yL_equal : MethodName := ⟨RL, "equal", "(LRingCircuits;II[J)I"⟩
abbrev cL_differ : ByteArray := method_12_code
def yL_differ : MethodName := ⟨RL, "differ", "(LRingCircuits;II[J)I"⟩
abbrev cL_state : ByteArray := method_13_code
def yL_state : MethodName := ⟨RL, "state", "(LRingCircuits;I[J)I"⟩
abbrev cL_amplitude : ByteArray := method_14_code
def yL_amplitude : MethodName := ⟨RL, "amplitude", "(LRingCircuits;II[J)I"⟩
abbrev cL_weight : ByteArray := method_15_code
def yL_weight : MethodName := ⟨RL, "weight", "(LRingCircuits;III[J)I"⟩
abbrev cL_measure : ByteArray := method_16_code
def yL_measure : MethodName := ⟨RL, "measure", "(LRingCircuits;II[J)I"⟩
abbrev cL_row : ByteArray := method_17_code
def yL_row : MethodName := ⟨RL, "row", "(LRingCircuits;II[J)I"⟩
abbrev cL_print : ByteArray := method_18_code
def yL_print : MethodName := ⟨RL, "print", "(LRingCircuits;I[J)I"⟩
abbrev cL_read : ByteArray := method_19_code
def yL_read : MethodName := ⟨RL, "read", "(LRingCircuits;I[J)I"⟩
abbrev cL_law : ByteArray := code
def yL_law : MethodName := ⟨RL, "law", "([I)Z"⟩
abbrev vwCl : List vw_C := [(RX0, TX0, 2), (RX1, TX1, 3), (RX3, TX3, 4), (RX4, TX4, 3), (RX5, TX5, 3), (RX6, TX6, 14), (RX7, TX7, 31)]
/-! the words of all methods, in chunks of 25 -/
def wA_0 : List Cond := [.code yX0_init cX0_init 1 none, .methodLink RX0 3 objectInit, .instanceMethod objectInit, .code objectInit ⟨#[0xb1]⟩ 1 none, .arrayClass .int, .fieldLink RX0 9 "RingCircuits$Circuit" "gates" "[I", .fieldLink RX0 15 "RingCircuits$Circuit" "count" "I", .code yX0_count cX0_count 1 (some .int), .code yX0_at cX0_at 2 (some .int), .code yX0_removeAll cX0_removeAll 1 none, .code yX0_add cX0_add 2 none, .code yX0_addAll cX0_addAll 4 none, .methodLink RX0 19 yX0_at, .instanceMethod yX0_at, .selects RX0 yX0_at yX0_at, .initialized RX0, .methodLink RX0 23 yX0_add, .instanceMethod yX0_add, .selects RX0 yX0_add yX0_add, .code yX0_become cX0_become 2 none, .methodLink RX0 27 yX0_removeAll, .instanceMethod yX0_removeAll, .selects RX0 yX0_removeAll yX0_removeAll, .methodLink RX0 30 yX0_addAll, .instanceMethod yX0_addAll]
def wA_1 : List Cond := [.selects RX0 yX0_addAll yX0_addAll, .code yX2_kind cX2_kind 1 (some .int), .code yX0_countKind cX0_countKind 4 (some .int), .methodLink RX0 34 yX2_kind, .static yX2_kind, .initialized RX2, .code yX2_a cX2_a 1 (some .int), .code yX0_isOnOneWire cX0_isOnOneWire 2 (some .boolean), .methodLink RX0 39 yX2_a, .static yX2_a, .code yX0_countInverted cX0_countInverted 1 (some .int), .methodLink RX0 42 yX0_countKind, .instanceMethod yX0_countKind, .selects RX0 yX0_countKind yX0_countKind, .code yX2_wiresOf cX2_wiresOf 1 (some .int), .code yX2_of cX2_of 5 (some .int), .methodLink RX2 11 yX2_wiresOf, .static yX2_wiresOf, .code yX0_addOn cX0_addOn 3 none, .methodLink RX0 65 yX2_of, .static yX2_of, .code yX0_addBackTurn cX0_addBackTurn 2 none, .methodLink RX0 48 yX0_addOn, .instanceMethod yX0_addOn, .selects RX0 yX0_addOn yX0_addOn]
def wA_2 : List Cond := [.methodLink RX0 45 yX0_addBackTurn, .instanceMethod yX0_addBackTurn, .selects RX0 yX0_addBackTurn yX0_addBackTurn, .code yX0_addInverted cX0_addInverted 5 none, .code yX0_countExpanded cX0_countExpanded 1 (some .int), .code yX2_b cX2_b 1 (some .int), .code yX2_c cX2_c 1 (some .int), .code yX0_addControlled cX0_addControlled 3 none, .methodLink RX0 62 yX0_addControlled, .instanceMethod yX0_addControlled, .selects RX0 yX0_addControlled yX0_addControlled, .code yX0_addParts cX0_addParts 4 none, .methodLink RX0 52 yX2_b, .static yX2_b, .methodLink RX0 55 yX2_c, .static yX2_c, .methodLink RX0 58 yX0_addParts, .instanceMethod yX0_addParts, .selects RX0 yX0_addParts yX0_addParts, .code yX0_addExpanded cX0_addExpanded 4 none, .code yX2_wireBits cX2_wireBits 2 (some .int), .methodLink RX2 15 yX2_kind, .methodLink RX2 18 yX2_a, .methodLink RX2 21 yX2_b, .methodLink RX2 24 yX2_c]
def wA_3 : List Cond := [.code yX2_meet cX2_meet 3 (some .boolean), .methodLink RX2 27 yX2_wireBits, .static yX2_wireBits, .code yX2_turns cX2_turns 2 (some .int), .code yX2_onlyTurns cX2_onlyTurns 1 (some .boolean), .methodLink RX2 42 yX2_turns, .static yX2_turns, .code yX2_controlBits cX2_controlBits 2 (some .int), .code yX2_targetBit cX2_targetBit 2 (some .int), .methodLink RX2 45 yX2_controlBits, .static yX2_controlBits, .methodLink RX2 48 yX2_targetBit, .static yX2_targetBit, .code yX2_slipsBy cX2_slipsBy 3 (some .boolean), .methodLink RX2 34 yX2_onlyTurns, .static yX2_onlyTurns, .methodLink RX2 38 yX2_slipsBy, .static yX2_slipsBy, .code yX2_pass cX2_pass 2 (some .boolean), .methodLink RX0 79 yX2_meet, .static yX2_meet, .methodLink RX0 83 yX2_pass, .static yX2_pass, .code yX0_partnerOf cX0_partnerOf 3 (some .int), .code yX2_united cX2_united 2 (some .int)]
def wA_4 : List Cond := [.methodLink RX2 30 yX2_of, .code yX0_removeAt cX0_removeAt 3 none, .code yX0_unite cX0_unite 4 none, .methodLink RX0 86 yX2_united, .static yX2_united, .methodLink RX0 89 yX0_removeAt, .instanceMethod yX0_removeAt, .selects RX0 yX0_removeAt yX0_removeAt, .methodLink RX0 73 yX0_partnerOf, .instanceMethod yX0_partnerOf, .selects RX0 yX0_partnerOf yX0_partnerOf, .methodLink RX0 76 yX0_unite, .instanceMethod yX0_unite, .selects RX0 yX0_unite yX0_unite, .code yX0_rewriteOne cX0_rewriteOne 3 (some .boolean), .methodLink RX0 69 yX0_rewriteOne, .instanceMethod yX0_rewriteOne, .selects RX0 yX0_rewriteOne yX0_rewriteOne, .code yX0_rewriteAll cX0_rewriteAll 3 none, .code yX1_init cX1_init 1 none, .methodLink RX1 3 objectInit, .arrayClass .long, .fieldLink RX1 11 "RingCircuits$Column" "parts" "[J", .fieldLink RX1 15 "RingCircuits$Column" "states" "I", .fieldLink RX1 19 "RingCircuits$Column" "exponent" "I"]
def wA_5 : List Cond := [.code yX1_exponent cX1_exponent 1 (some .int), .code yX1_part cX1_part 4 (some .long), .code yJ7_fill_d0a16 cJ7_fill_d0a16 5 none, .code yX1_timesRoot cX1_timesRoot 10 none, .code yX1_raise cX1_raise 2 none, .methodLink RX1 97 yX1_timesRoot, .instanceMethod yX1_timesRoot, .selects RX1 yX1_timesRoot yX1_timesRoot, .initialized RX1, .code yX1_mixPair cX1_mixPair 6 none, .code yX1_mix cX1_mix 3 none, .methodLink RX1 88 yX1_mixPair, .instanceMethod yX1_mixPair, .selects RX1 yX1_mixPair yX1_mixPair, .code yX1_exchange cX1_exchange 6 none, .code yX1_trade cX1_trade 4 none, .methodLink RX1 91 yX1_exchange, .instanceMethod yX1_exchange, .selects RX1 yX1_exchange yX1_exchange, .code yX2_flips cX2_flips 2 (some .boolean), .code yX1_flip cX1_flip 4 none, .code yX1_turnOne cX1_turnOne 6 none, .code yX1_turn cX1_turn 4 none, .methodLink RX1 94 yX1_turnOne, .instanceMethod yX1_turnOne]
def wA_6 : List Cond := [.selects RX1 yX1_turnOne yX1_turnOne, .methodLink RX1 50 yX2_kind, .methodLink RX1 53 yX2_a, .methodLink RX1 56 yX1_mix, .instanceMethod yX1_mix, .selects RX1 yX1_mix yX1_mix, .methodLink RX1 59 yX2_b, .methodLink RX1 62 yX1_trade, .instanceMethod yX1_trade, .selects RX1 yX1_trade yX1_trade, .methodLink RX1 66 yX2_flips, .static yX2_flips, .methodLink RX1 70 yX2_controlBits, .methodLink RX1 73 yX2_targetBit, .methodLink RX1 76 yX1_flip, .instanceMethod yX1_flip, .selects RX1 yX1_flip yX1_flip, .methodLink RX1 79 yX2_wireBits, .methodLink RX1 82 yX2_turns, .methodLink RX1 85 yX1_turn, .instanceMethod yX1_turn, .selects RX1 yX1_turn yX1_turn, .code yX1_apply cX1_apply 3 none, .methodLink RX1 22 yJ7_fill_d0a16, .static yJ7_fill_d0a16]
def wA_7 : List Cond := [.initialized RJ7, .methodLink RX1 30 yX0_countKind, .methodLink RX1 36 yX1_raise, .instanceMethod yX1_raise, .selects RX1 yX1_raise yX1_raise, .methodLink RX1 39 yX0_count, .instanceMethod yX0_count, .selects RX0 yX0_count yX0_count, .methodLink RX1 43 yX0_at, .methodLink RX1 46 yX1_apply, .instanceMethod yX1_apply, .selects RX1 yX1_apply yX1_apply, .code yX1_run cX1_run 6 none, .code yX1_canBeDivided cX1_canBeDivided 5 (some .boolean), .code yX1_divide cX1_divide 4 none, .code yX1_lower cX1_lower 1 none, .methodLink RX1 100 yX1_canBeDivided, .instanceMethod yX1_canBeDivided, .selects RX1 yX1_canBeDivided yX1_canBeDivided, .methodLink RX1 104 yX1_divide, .instanceMethod yX1_divide, .selects RX1 yX1_divide yX1_divide, .code yX1_firstDifference cX1_firstDifference 4 (some .int), .methodLink RX1 107 yX1_part, .instanceMethod yX1_part]
def wA_8 : List Cond := [.selects RX1 yX1_part yX1_part, .code yX1_isTurned cX1_isTurned 8 (some .boolean), .code yX1_weightWhole cX1_weightWhole 7 (some .long), .code yX1_weightRoot cX1_weightRoot 7 (some .long), .code yX1_hasAny cX1_hasAny 4 (some .boolean), .code yX1_keepOnly cX1_keepOnly 4 none, .code yX2_canStand cX2_canStand 6 (some .boolean), .code yX3_init cX3_init 1 none, .methodLink RX3 3 objectInit, .fieldLink RX3 9 "RingCircuits$LeastForm" "heads" "[I", .fieldLink RX3 15 "RingCircuits$LeastForm" "count" "I", .fieldLink RX3 19 "RingCircuits$LeastForm" "rest" "I", .fieldLink RX3 22 "RingCircuits$LeastForm" "word" "I", .code yX3_imageOfZ cX3_imageOfZ 1 (some .int), .code yX3_headOf cX3_headOf 2 (some .int), .methodLink RX3 58 yX3_imageOfZ, .static yX3_imageOfZ, .initialized RX3, .code yX3_image cX3_image 4 (some .int), .code yX3_product cX3_product 4 (some .int), .methodLink RX3 75 yX3_image, .static yX3_image, .code yX3_rotationBackOfHead cX3_rotationBackOfHead 1 (some .int), .methodLink RX3 45 yX3_product, .static yX3_product]
def wA_9 : List Cond := [.code yX3_rotationOfHead cX3_rotationOfHead 1 (some .int), .code yX3_takeT cX3_takeT 3 none, .methodLink RX3 52 yX3_headOf, .static yX3_headOf, .methodLink RX3 55 yX3_rotationBackOfHead, .static yX3_rotationBackOfHead, .methodLink RX3 61 yX3_rotationOfHead, .static yX3_rotationOfHead, .code yX3_rotationOf cX3_rotationOf 1 (some .int), .code yX3_rotationOfWord cX3_rotationOfWord 3 (some .int), .code yX3_wordOf cX3_wordOf 2 (some .int), .methodLink RX3 72 yX3_rotationOfWord, .static yX3_rotationOfWord, .methodLink RX3 25 yX0_count, .methodLink RX3 30 yX0_at, .methodLink RX3 34 yX2_kind, .methodLink RX3 39 yX3_takeT, .instanceMethod yX3_takeT, .selects RX3 yX3_takeT yX3_takeT, .methodLink RX3 42 yX3_rotationOf, .static yX3_rotationOf, .methodLink RX3 49 yX3_wordOf, .static yX3_wordOf, .code yX3_take cX3_take 4 none, .code yX3_countT cX3_countT 1 (some .int)]
def wA_10 : List Cond := [.code yX3_countGates cX3_countGates 3 (some .int), .code yX3_addTo cX3_addTo 5 none, .methodLink RX3 64 yX2_of, .methodLink RX3 68 yX0_add, .code yX4_init cX4_init 1 none, .methodLink RX4 3 objectInit, .code yX4_begin cX4_begin 2 none, .fieldLink RX4 9 "RingCircuits$Signs" "x" "I", .fieldLink RX4 15 "RingCircuits$Signs" "z" "I", .fieldLink RX4 18 "RingCircuits$Signs" "minus" "I", .code yX4_bit cX4_bit 2 (some .int), .code yX4_passH cX4_passH 3 none, .methodLink RX4 37 yX4_bit, .static yX4_bit, .initialized RX4, .code yX4_passCX cX4_passCX 3 none, .code yX4_traded cX4_traded 4 (some .int), .methodLink RX4 21 yX2_a, .methodLink RX4 27 yX2_b, .methodLink RX4 30 yX2_kind, .methodLink RX4 33 yX4_passH, .instanceMethod yX4_passH, .selects RX4 yX4_passH yX4_passH, .methodLink RX4 41 yX4_passCX, .instanceMethod yX4_passCX]
def wA_11 : List Cond := [.selects RX4 yX4_passCX yX4_passCX, .methodLink RX4 45 yX4_traded, .static yX4_traded, .code yX4_pass cX4_pass 4 none, .code yX4_digits cX4_digits 4 (some .int), .code yX5_init cX5_init 1 none, .methodLink RX5 3 objectInit, .arrayClass .char, .fieldLink RX5 11 "RingCircuits$Text" "characters" "[C", .fieldLink RX5 15 "RingCircuits$Text" "count" "I", .fieldLink RX5 19 "RingCircuits$Text" "reached" "I", .code yX5_count cX5_count 1 (some .int), .code yX5_at cX5_at 2 (some .int), .code yX5_removeAll cX5_removeAll 1 none, .code yX5_byteAt cX5_byteAt 3 (some .int), .constantLong RX5 30 (255), .code yX5_put cX5_put 2 none, .code yX5_addBytes cX5_addBytes 6 (some .boolean), .methodLink RX5 22 yX5_byteAt, .static yX5_byteAt, .initialized RX5, .methodLink RX5 26 yX5_put, .instanceMethod yX5_put, .selects RX5 yX5_put yX5_put, .code yJ0_coder_7d493 cJ0_coder_7d493 1 (some .byte)]
def wA_12 : List Cond := [.fieldLink RJ0 38 "java/lang/String" "COMPACT_STRINGS" "Z", .fieldLink RJ0 15 "java/lang/String" "coder" "B", .code yJ0_length_8abf5 cJ0_length_8abf5 1 (some .int), .fieldLink RJ0 9 "java/lang/String" "value" "[B", .methodLink RJ0 335 yJ0_coder_7d493, .instanceMethod yJ0_coder_7d493, .selects RJ0 yJ0_coder_7d493 yJ0_coder_7d493, .initialized RJ0, .code yJ0_isLatin1_aae02 cJ0_isLatin1_aae02 1 (some .boolean), .code yJ3_checkIndex_8e157 cJ3_checkIndex_8e157 3 (some .int), .code yJ0_checkIndex_df160 cJ0_checkIndex_df160 2 none, .fieldLink RJ0 1053 "jdk/internal/util/Preconditions" "SIOOBE_FORMATTER" "Ljava/util/function/BiFunction;", .methodLink RJ0 1059 yJ3_checkIndex_8e157, .static yJ3_checkIndex_8e157, .initialized RJ3, .code yJ1_charAt_3b067 cJ1_charAt_3b067 2 (some .char), .methodLink RJ1 9 yJ0_checkIndex_df160, .static yJ0_checkIndex_df160, .code yJ2_length_9d52b cJ2_length_9d52b 1 (some .int), .code yJ2_checkIndex_2214a cJ2_checkIndex_2214a 2 none, .methodLink RJ2 48 yJ2_length_9d52b, .static yJ2_length_9d52b, .initialized RJ2, .methodLink RJ2 414 yJ0_checkIndex_df160, .code yJ2_getChar_3b067 cJ2_getChar_3b067 2 (some .char)]
def wA_13 : List Cond := [.fieldLink RJ2 44 "java/lang/StringUTF16" "$assertionsDisabled" "Z", .fieldLink RJ2 59 "java/lang/StringUTF16" "HI_BYTE_SHIFT" "I", .fieldLink RJ2 63 "java/lang/StringUTF16" "LO_BYTE_SHIFT" "I", .code yJ2_charAt_3b067 cJ2_charAt_3b067 2 (some .char), .methodLink RJ2 67 yJ2_checkIndex_2214a, .static yJ2_checkIndex_2214a, .methodLink RJ2 71 yJ2_getChar_3b067, .static yJ2_getChar_3b067, .methodLink RJ0 492 yJ0_isLatin1_aae02, .instanceMethod yJ0_isLatin1_aae02, .selects RJ0 yJ0_isLatin1_aae02 yJ0_isLatin1_aae02, .methodLink RJ0 495 yJ1_charAt_3b067, .static yJ1_charAt_3b067, .initialized RJ1, .methodLink RJ0 498 yJ2_charAt_3b067, .static yJ2_charAt_3b067, .code yJ0_charAt_5068e cJ0_charAt_5068e 2 (some .char), .methodLink RX5 48 yX2_kind, .methodLink RX5 55 yJ0_length_8abf5, .instanceMethod yJ0_length_8abf5, .selects RJ0 yJ0_length_8abf5 yJ0_length_8abf5, .methodLink RX5 60 yJ0_charAt_5068e, .instanceMethod yJ0_charAt_5068e, .selects RJ0 yJ0_charAt_5068e yJ0_charAt_5068e, .methodLink RX5 64 yX2_wiresOf]
def wA_14 : List Cond := [.code yX5_writeGate cX5_writeGate 5 none, .methodLink RX5 32 yX5_removeAll, .instanceMethod yX5_removeAll, .selects RX5 yX5_removeAll yX5_removeAll, .methodLink RX5 35 yX0_count, .methodLink RX5 40 yX0_at, .methodLink RX5 44 yX5_writeGate, .instanceMethod yX5_writeGate, .selects RX5 yX5_writeGate yX5_writeGate, .code yX5_write cX5_write 3 none, .code yJ1_canEncode_9a6ad cJ1_canEncode_9a6ad 1 (some .boolean), .code yJ1_indexOfChar_4cfef cJ1_indexOfChar_4cfef 6 (some .int), .code yJ1_indexOf_4cfef cJ1_indexOf_4cfef 4 (some .int), .methodLink RJ1 92 Lib.Math.max.name, .static Lib.Math.max.name, .initialized "java/lang/Math", .code Lib.Math.max.name Lib.Math.max.code 2 (some .int), .methodLink RJ1 38 Lib.Math.min.name, .static Lib.Math.min.name, .code Lib.Math.min.name Lib.Math.min.code 2 (some .int), .methodLink RJ1 88 yJ1_canEncode_9a6ad, .static yJ1_canEncode_9a6ad, .methodLink RJ1 95 yJ1_indexOfChar_4cfef, .static yJ1_indexOfChar_4cfef, .code yJ3_checkFromToIndex_8c36e cJ3_checkFromToIndex_8c36e 4 (some .int)]
def wA_15 : List Cond := [.code yJ0_checkBoundsBeginEnd_23922 cJ0_checkBoundsBeginEnd_23922 3 none, .methodLink RJ0 1062 yJ3_checkFromToIndex_8c36e, .static yJ3_checkFromToIndex_8c36e, .code yJ2_checkBoundsBeginEnd_d044e cJ2_checkBoundsBeginEnd_d044e 3 none, .methodLink RJ2 241 yJ0_checkBoundsBeginEnd_23922, .static yJ0_checkBoundsBeginEnd_23922, .code yJ2_indexOfCharUnsafe_4cfef cJ2_indexOfCharUnsafe_4cfef 5 (some .int), .methodLink RJ2 96 yJ2_checkBoundsBeginEnd_d044e, .static yJ2_checkBoundsBeginEnd_d044e, .methodLink RJ2 244 yJ2_indexOfCharUnsafe_4cfef, .static yJ2_indexOfCharUnsafe_4cfef, .code yJ2_indexOfChar_4cfef cJ2_indexOfChar_4cfef 4 (some .int), .code yJ11_isValidCodePoint_9a6ad cJ11_isValidCodePoint_9a6ad 2 (some .boolean), .code yJ11_highSurrogate_5068e cJ11_highSurrogate_5068e 1 (some .char), .constant RJ11 110 (55232), .code yJ11_lowSurrogate_5068e cJ11_lowSurrogate_5068e 1 (some .char), .constant RJ11 76 (56320), .methodLink RJ2 164 yJ11_isValidCodePoint_9a6ad, .static yJ11_isValidCodePoint_9a6ad, .initialized RJ11, .methodLink RJ2 157 yJ11_highSurrogate_5068e, .static yJ11_highSurrogate_5068e, .methodLink RJ2 161 yJ11_lowSurrogate_5068e, .static yJ11_lowSurrogate_5068e, .code yJ2_indexOfSupplementary_4cfef cJ2_indexOfSupplementary_4cfef 7 (some .int)]
def wA_16 : List Cond := [.methodLink RJ2 224 Lib.Math.max.name, .methodLink RJ2 183 Lib.Math.min.name, .constant RJ2 227 (65536), .methodLink RJ2 228 yJ2_indexOfChar_4cfef, .static yJ2_indexOfChar_4cfef, .methodLink RJ2 232 yJ2_indexOfSupplementary_4cfef, .static yJ2_indexOfSupplementary_4cfef, .code yJ2_indexOf_4cfef cJ2_indexOf_4cfef 4 (some .int), .methodLink RJ0 505 yJ0_length_8abf5, .methodLink RJ0 637 yJ1_indexOf_4cfef, .static yJ1_indexOf_4cfef, .methodLink RJ0 640 yJ2_indexOf_4cfef, .static yJ2_indexOf_4cfef, .code yJ0_indexOf_7cf53 cJ0_indexOf_7cf53 3 (some .int), .methodLink RJ0 633 yJ0_indexOf_7cf53, .instanceMethod yJ0_indexOf_7cf53, .selects RJ0 yJ0_indexOf_7cf53 yJ0_indexOf_7cf53, .code yJ0_indexOf_0f7a4 cJ0_indexOf_0f7a4 2 (some .int), .methodLink RX5 74 yX5_at, .instanceMethod yX5_at, .selects RX5 yX5_at yX5_at, .methodLink RX5 75 yJ0_indexOf_0f7a4, .instanceMethod yJ0_indexOf_0f7a4, .selects RJ0 yJ0_indexOf_0f7a4 yJ0_indexOf_0f7a4, .code yX5_parseGate cX5_parseGate 8 (some .int)]
def wA_17 : List Cond := [.methodLink RX5 67 yX0_removeAll, .methodLink RX5 68 yX5_parseGate, .instanceMethod yX5_parseGate, .selects RX5 yX5_parseGate yX5_parseGate, .methodLink RX5 71 yX0_add, .code yX5_parse cX5_parse 5 (some .int), .methodLink RX6 1 objectInit, .classLink RX6 7 RX0, .instantiable RX0 2, .fieldLink RX6 10 "RingCircuits" "first" "LRingCircuits$Circuit;", .fieldLink RX6 16 "RingCircuits" "second" "LRingCircuits$Circuit;", .fieldLink RX6 19 "RingCircuits" "third" "LRingCircuits$Circuit;", .fieldLink RX6 22 "RingCircuits" "spare" "LRingCircuits$Circuit;", .classLink RX6 25 RX1, .instantiable RX1 3, .fieldLink RX6 28 "RingCircuits" "amplitudes" "LRingCircuits$Column;", .fieldLink RX6 32 "RingCircuits" "left" "LRingCircuits$Column;", .fieldLink RX6 35 "RingCircuits" "right" "LRingCircuits$Column;", .classLink RX6 38 RX4, .instantiable RX4 3, .fieldLink RX6 41 "RingCircuits" "signs" "LRingCircuits$Signs;", .classLink RX6 45 RX3, .instantiable RX3 4, .fieldLink RX6 48 "RingCircuits" "form" "LRingCircuits$LeastForm;", .classLink RX6 52 RX5]
def wA_18 : List Cond := [.instantiable RX5 3, .fieldLink RX6 55 "RingCircuits" "text" "LRingCircuits$Text;", .fieldLink RX6 59 "RingCircuits" "wireCount" "I", .fieldLink RX6 63 "RingCircuits" "hasState" "Z", .fieldLink RX6 67 "RingCircuits" "phase" "I", .fieldLink RX6 70 "RingCircuits" "place" "I", .methodLink RX6 9 yX0_init, .instanceMethod yX0_init, .methodLink RX6 27 yX1_init, .instanceMethod yX1_init, .instanceMethod yX4_init, .methodLink RX6 47 yX3_init, .instanceMethod yX3_init, .methodLink RX6 54 yX5_init, .instanceMethod yX5_init, .code yX6_init cX6_init 1 none, .code yX6_wires cX6_wires 2 none, .classLink RX6 73 "java/lang/IllegalArgumentException", .initialized "java/lang/IllegalArgumentException", .methodLink RX6 80 yX0_removeAll, .methodLink RX6 83 yX5_removeAll, .code yX6_inSlot cX6_inSlot 2 (some (.object "RingCircuits$Circuit")), .classLink RX6 100 "java/lang/IllegalStateException", .initialized "java/lang/IllegalStateException", .methodLink RX6 84 yX6_inSlot]
def wA_19 : List Cond := [.instanceMethod yX6_inSlot, .selects RX6 yX6_inSlot yX6_inSlot, .initialized RX6, .methodLink RX6 88 yX2_canStand, .static yX2_canStand, .methodLink RX6 96 yX0_count, .methodLink RX6 105 yX2_of, .methodLink RX6 109 yX0_add, .code yX6_gate cX6_gate 7 (some .int), .code yX6_size cX6_size 3 (some .int), .code yX6_gateAt cX6_gateAt 4 (some .int), .methodLink RX6 113 yX0_at, .code yX6_clear cX6_clear 3 none, .methodLink RX6 121 yX0_addAll, .code yX6_append cX6_append 5 (some .int), .methodLink RX6 125 yX0_countInverted, .instanceMethod yX0_countInverted, .selects RX0 yX0_countInverted yX0_countInverted, .methodLink RX6 128 yX0_addInverted, .instanceMethod yX0_addInverted, .selects RX0 yX0_addInverted yX0_addInverted, .methodLink RX6 131 yX0_become, .instanceMethod yX0_become, .selects RX0 yX0_become yX0_become, .code yX6_inverse cX6_inverse 3 (some .int)]
def wA_20 : List Cond := [.methodLink RX6 134 yX0_countExpanded, .instanceMethod yX0_countExpanded, .selects RX0 yX0_countExpanded yX0_countExpanded, .methodLink RX6 137 yX0_addExpanded, .instanceMethod yX0_addExpanded, .selects RX0 yX0_addExpanded yX0_addExpanded, .code yX6_expand cX6_expand 3 (some .int), .methodLink RX6 140 yX0_rewriteAll, .instanceMethod yX0_rewriteAll, .selects RX0 yX0_rewriteAll yX0_rewriteAll, .code yX6_optimise cX6_optimise 3 (some .int), .methodLink RX6 260 Lib.Math.max.name, .methodLink RX6 186 yX0_countKind, .methodLink RX6 189 yX1_run, .instanceMethod yX1_run, .selects RX1 yX1_run yX1_run, .code yX6_runBoth cX6_runBoth 5 none, .methodLink RX6 178 yX6_runBoth, .instanceMethod yX6_runBoth, .selects RX6 yX6_runBoth yX6_runBoth, .methodLink RX6 266 yX1_isTurned, .instanceMethod yX1_isTurned, .selects RX1 yX1_isTurned yX1_isTurned, .code yX6_firstTurn cX6_firstTurn 4 (some .int), .methodLink RX6 143 yX0_isOnOneWire]
def wA_21 : List Cond := [.instanceMethod yX0_isOnOneWire, .selects RX0 yX0_isOnOneWire yX0_isOnOneWire, .methodLink RX6 149 yX3_take, .instanceMethod yX3_take, .selects RX3 yX3_take yX3_take, .methodLink RX6 152 yX3_countGates, .instanceMethod yX3_countGates, .selects RX3 yX3_countGates yX3_countGates, .methodLink RX6 157 yX2_a, .methodLink RX6 160 yX3_addTo, .instanceMethod yX3_addTo, .selects RX3 yX3_addTo yX3_addTo, .methodLink RX6 164 yX6_firstTurn, .instanceMethod yX6_firstTurn, .selects RX6 yX6_firstTurn yX6_firstTurn, .methodLink RX6 168 yX3_countT, .instanceMethod yX3_countT, .selects RX3 yX3_countT yX3_countT, .code yX6_least cX6_least 3 (some .int), .code yX6_basisStates cX6_basisStates 1 (some .int), .methodLink RX6 175 yX6_basisStates, .instanceMethod yX6_basisStates, .selects RX6 yX6_basisStates yX6_basisStates, .code yX6_isTurned cX6_isTurned 5 (some .boolean), .methodLink RX6 171 yX6_isTurned]
def wA_22 : List Cond := [.instanceMethod yX6_isTurned, .selects RX6 yX6_isTurned yX6_isTurned, .code yX6_equal cX6_equal 6 (some .int), .code yX6_phase cX6_phase 1 (some .int), .methodLink RX6 182 yX1_firstDifference, .instanceMethod yX1_firstDifference, .selects RX1 yX1_firstDifference yX1_firstDifference, .code yX6_differ cX6_differ 7 (some .int), .methodLink RX6 193 yX1_lower, .instanceMethod yX1_lower, .selects RX1 yX1_lower yX1_lower, .methodLink RX6 196 yX1_exponent, .instanceMethod yX1_exponent, .selects RX1 yX1_exponent yX1_exponent, .code yX6_state cX6_state 3 (some .int), .code yX6_amplitude cX6_amplitude 3 (some .long), .classLink RX6 201 "java/lang/IndexOutOfBoundsException", .initialized "java/lang/IndexOutOfBoundsException", .methodLink RX6 206 yX1_part, .code yX6_scale cX6_scale 1 (some .int), .code yX6_isWire cX6_isWire 2 (some .boolean), .code yX6_weight cX6_weight 4 (some .long), .methodLink RX6 210 yX6_isWire, .instanceMethod yX6_isWire, .selects RX6 yX6_isWire yX6_isWire]
def wA_23 : List Cond := [.methodLink RX6 216 yX1_weightWhole, .instanceMethod yX1_weightWhole, .selects RX1 yX1_weightWhole yX1_weightWhole, .methodLink RX6 219 yX1_weightRoot, .instanceMethod yX1_weightRoot, .selects RX1 yX1_weightRoot yX1_weightRoot, .methodLink RX6 224 yX1_hasAny, .instanceMethod yX1_hasAny, .selects RX1 yX1_hasAny yX1_hasAny, .methodLink RX6 228 yX1_keepOnly, .instanceMethod yX1_keepOnly, .selects RX1 yX1_keepOnly yX1_keepOnly, .code yX6_measure cX6_measure 3 (some .boolean), .methodLink RX6 236 yX4_begin, .instanceMethod yX4_begin, .selects RX4 yX4_begin yX4_begin, .methodLink RX6 239 yX4_pass, .instanceMethod yX4_pass, .selects RX4 yX4_pass yX4_pass, .methodLink RX6 242 yX4_digits, .instanceMethod yX4_digits, .selects RX4 yX4_digits yX4_digits, .code yX6_row cX6_row 5 (some .int), .code yX6_type cX6_type 4 (some .int), .methodLink RX6 245 yX5_addBytes]
def wA_24 : List Cond := [.instanceMethod yX5_addBytes, .selects RX5 yX5_addBytes yX5_addBytes, .methodLink RX6 249 yX5_count, .instanceMethod yX5_count, .selects RX5 yX5_count yX5_count, .methodLink RX6 250 yX5_write, .instanceMethod yX5_write, .selects RX5 yX5_write yX5_write, .code yX6_print cX6_print 3 (some .int), .code yX6_character cX6_character 2 (some .int), .methodLink RX6 253 yX5_at, .methodLink RX6 254 yX5_parse, .instanceMethod yX5_parse, .selects RX5 yX5_parse yX5_parse, .code yX6_read cX6_read 4 (some .int), .code yX6_place cX6_place 1 (some .int), .code yX7_init cX7_init 1 none, .methodLink RX7 1 objectInit, .fieldLink RX7 7 "RingCircuitsModel" "wires" "I", .fieldLink RX7 13 "RingCircuitsModel" "size" "[I", .fieldLink RX7 17 "RingCircuitsModel" "kind" "[I", .fieldLink RX7 20 "RingCircuitsModel" "one" "[I", .fieldLink RX7 23 "RingCircuitsModel" "two" "[I", .fieldLink RX7 26 "RingCircuitsModel" "three" "[I", .fieldLink RX7 29 "RingCircuitsModel" "state" "[J"]
def wA_25 : List Cond := [.fieldLink RX7 33 "RingCircuitsModel" "first" "[J", .fieldLink RX7 36 "RingCircuitsModel" "other" "[J", .fieldLink RX7 39 "RingCircuitsModel" "text" "[I", .fieldLink RX7 42 "RingCircuitsModel" "place" "I", .fieldLink RX7 45 "RingCircuitsModel" "round" "[I", .fieldLink RX7 48 "RingCircuitsModel" "foundX" "[I", .fieldLink RX7 51 "RingCircuitsModel" "foundZ" "[I", .fieldLink RX7 54 "RingCircuitsModel" "from" "[I", .fieldLink RX7 57 "RingCircuitsModel" "letter" "[I", .code yX7_thrown cX7_thrown 1 (some .int), .fieldLink RX7 60 "RingCircuitsModel" "fault" "I", .code yX7_in cX7_in 6 (some .boolean), .code yX7_isSlot cX7_isSlot 1 (some .boolean), .constantLong RX7 63 (2), .methodLink RX7 65 yX7_in, .static yX7_in, .initialized RX7, .code yX7_wires cX7_wires 3 none, .constantLong RX7 69 (4), .fieldLink RX7 71 "RingCircuitsModel" "hasState" "Z", .fieldLink RX7 75 "RingCircuitsModel" "length" "I", .code yX7_needs cX7_needs 1 (some .int), .code yX7_put cX7_put 7 none, .code yX7_isWire cX7_isWire 2 (some .boolean), .code yX7_isGate cX7_isGate 5 (some .boolean)]
def wA_26 : List Cond := [.constantLong RX7 78 (9), .methodLink RX7 80 yX7_isWire, .instanceMethod yX7_isWire, .selects RX7 yX7_isWire yX7_isWire, .methodLink RX7 84 yX7_needs, .static yX7_needs, .methodLink RX7 88 yX7_isSlot, .static yX7_isSlot, .methodLink RX7 91 yX7_isGate, .instanceMethod yX7_isGate, .selects RX7 yX7_isGate yX7_isGate, .methodLink RX7 95 yX7_put, .instanceMethod yX7_put, .selects RX7 yX7_put yX7_put, .code yX7_gate cX7_gate 6 (some .int), .code yX7_size cX7_size 2 (some .int), .code yX7_gateAt cX7_gateAt 4 (some .int), .code yX7_clear cX7_clear 2 none, .code yX7_copyGate cX7_copyGate 3 none, .code yX7_copy cX7_copy 4 none, .methodLink RX7 99 yX7_copyGate, .instanceMethod yX7_copyGate, .selects RX7 yX7_copyGate yX7_copyGate, .code yX7_append cX7_append 5 (some .int), .code yX7_turnsOf cX7_turnsOf 2 (some .int)]
def wA_27 : List Cond := [.methodLink RX7 103 yX7_copy, .instanceMethod yX7_copy, .selects RX7 yX7_copy yX7_copy, .code yX7_inverse cX7_inverse 5 (some .int), .code yX7_putBack cX7_putBack 2 none, .code yX7_expandOne cX7_expandOne 4 none, .methodLink RX7 106 yX7_putBack, .instanceMethod yX7_putBack, .selects RX7 yX7_putBack yX7_putBack, .methodLink RX7 110 yX7_expandOne, .instanceMethod yX7_expandOne, .selects RX7 yX7_expandOne yX7_expandOne, .code yX7_expand cX7_expand 5 (some .int), .code yX7_samePair cX7_samePair 3 (some .boolean), .code yX7_cancels cX7_cancels 3 (some .boolean), .methodLink RX7 114 yX7_samePair, .instanceMethod yX7_samePair, .selects RX7 yX7_samePair yX7_samePair, .code yX7_together cX7_together 6 (some .int), .methodLink RX7 118 yX7_turnsOf, .instanceMethod yX7_turnsOf, .selects RX7 yX7_turnsOf yX7_turnsOf, .code yX7_has cX7_has 3 (some .boolean), .code yX7_shares cX7_shares 3 (some .boolean), .methodLink RX7 121 yX7_has]
def wA_28 : List Cond := [.instanceMethod yX7_has, .selects RX7 yX7_has yX7_has, .code yX7_isStraight cX7_isStraight 2 (some .boolean), .code yX7_goesBy cX7_goesBy 7 (some .boolean), .methodLink RX7 124 yX7_shares, .instanceMethod yX7_shares, .selects RX7 yX7_shares yX7_shares, .methodLink RX7 127 yX7_isStraight, .instanceMethod yX7_isStraight, .selects RX7 yX7_isStraight yX7_isStraight, .methodLink RX7 130 yX7_goesBy, .instanceMethod yX7_goesBy, .selects RX7 yX7_goesBy yX7_goesBy, .code yX7_passes cX7_passes 3 (some .boolean), .code yX7_remove cX7_remove 5 none, .methodLink RX7 133 yX7_together, .instanceMethod yX7_together, .selects RX7 yX7_together yX7_together, .methodLink RX7 137 yX7_cancels, .instanceMethod yX7_cancels, .selects RX7 yX7_cancels yX7_cancels, .methodLink RX7 140 yX7_remove, .instanceMethod yX7_remove, .selects RX7 yX7_remove yX7_remove, .methodLink RX7 143 yX7_passes]
def wA_29 : List Cond := [.instanceMethod yX7_passes, .selects RX7 yX7_passes yX7_passes, .code yX7_meetOnce cX7_meetOnce 8 (some .boolean), .methodLink RX7 146 yX7_meetOnce, .instanceMethod yX7_meetOnce, .selects RX7 yX7_meetOnce yX7_meetOnce, .code yX7_optimise cX7_optimise 3 (some .int), .code yX7_basis cX7_basis 1 (some .int), .code yX7_turn cX7_turn 6 none, .code yX7_grow cX7_grow 10 none, .code yX7_change cX7_change 6 none, .code yX7_mix cX7_mix 8 none, .code yX7_bit cX7_bit 2 (some .boolean), .methodLink RX7 149 yX7_basis, .instanceMethod yX7_basis, .selects RX7 yX7_basis yX7_basis, .methodLink RX7 153 yX7_bit, .static yX7_bit, .methodLink RX7 156 yX7_mix, .static yX7_mix, .methodLink RX7 160 yX7_turn, .static yX7_turn, .methodLink RX7 163 yX7_change, .static yX7_change, .code yX7_act cX7_act 7 none]
def wA_30 : List Cond := [.methodLink RX7 166 yX7_act, .instanceMethod yX7_act, .selects RX7 yX7_act yX7_act, .code yX7_column cX7_column 6 (some .int), .fieldLink RX7 174 "RingCircuitsModel" "firstScale" "I", .fieldLink RX7 177 "RingCircuitsModel" "otherScale" "I", .methodLink RX7 170 yX7_column, .instanceMethod yX7_column, .selects RX7 yX7_column yX7_column, .methodLink RX7 180 yX7_grow, .static yX7_grow, .code yX7_both cX7_both 5 none, .methodLink RX7 183 yX7_both, .instanceMethod yX7_both, .selects RX7 yX7_both yX7_both, .code yX7_isTurned cX7_isTurned 8 (some .boolean), .fieldLink RX7 190 "RingCircuitsModel" "phase" "I", .methodLink RX7 186 yX7_isTurned, .instanceMethod yX7_isTurned, .selects RX7 yX7_isTurned yX7_isTurned, .code yX7_equal cX7_equal 4 (some .int), .code yX7_phase cX7_phase 1 (some .int), .code yX7_differ cX7_differ 6 (some .int), .code yX7_size2 cX7_size2 1 (some .int), .code yX7_product cX7_product 7 (some .int)]
def wA_31 : List Cond := [.methodLink RX7 193 yX7_size2, .static yX7_size2, .code yX7_image cX7_image 3 (some .int), .fieldLink RX7 196 "RingCircuitsModel" "leftX" "I", .fieldLink RX7 199 "RingCircuitsModel" "leftZ" "I", .methodLink RX7 202 yX7_product, .static yX7_product, .code yX7_joinLeft cX7_joinLeft 1 none, .fieldLink RX7 205 "RingCircuitsModel" "handX" "I", .fieldLink RX7 211 "RingCircuitsModel" "handZ" "I", .methodLink RX7 208 yX7_image, .instanceMethod yX7_image, .selects RX7 yX7_image yX7_image, .code yX7_setLeft cX7_setLeft 2 none, .code yX7_joinBackS cX7_joinBackS 1 none, .methodLink RX7 214 yX7_setLeft, .instanceMethod yX7_setLeft, .selects RX7 yX7_setLeft yX7_setLeft, .methodLink RX7 217 yX7_joinLeft, .instanceMethod yX7_joinLeft, .selects RX7 yX7_joinLeft yX7_joinLeft, .code yX7_timesRight cX7_timesRight 2 none, .fieldLink RX7 220 "RingCircuitsModel" "rounds" "I", .fieldLink RX7 229 "RingCircuitsModel" "restX" "I", .fieldLink RX7 232 "RingCircuitsModel" "restZ" "I"]
def wA_32 : List Cond := [.methodLink RX7 223 yX7_timesRight, .instanceMethod yX7_timesRight, .selects RX7 yX7_timesRight yX7_timesRight, .methodLink RX7 226 yX7_joinBackS, .instanceMethod yX7_joinBackS, .selects RX7 yX7_joinBackS yX7_joinBackS, .code yX7_carry cX7_carry 6 none, .code yX7_addRound cX7_addRound 2 none, .code yX7_dropRound cX7_dropRound 2 none, .methodLink RX7 235 yX7_carry, .instanceMethod yX7_carry, .selects RX7 yX7_carry yX7_carry, .methodLink RX7 238 yX7_dropRound, .instanceMethod yX7_dropRound, .selects RX7 yX7_dropRound yX7_dropRound, .methodLink RX7 241 yX7_addRound, .instanceMethod yX7_addRound, .selects RX7 yX7_addRound yX7_addRound, .code yX7_takeGate cX7_takeGate 2 none, .code yX7_findElement cX7_findElement 4 (some .int), .fieldLink RX7 244 "RingCircuitsModel" "found" "I", .methodLink RX7 247 yX7_findElement, .instanceMethod yX7_findElement, .selects RX7 yX7_findElement yX7_findElement, .code yX7_findWords cX7_findWords 3 none]
def wA_33 : List Cond := [.code yX7_putWord cX7_putWord 7 none, .methodLink RX7 250 yX7_takeGate, .instanceMethod yX7_takeGate, .selects RX7 yX7_takeGate yX7_takeGate, .methodLink RX7 253 yX7_findWords, .instanceMethod yX7_findWords, .selects RX7 yX7_findWords yX7_findWords, .methodLink RX7 256 yX7_putWord, .instanceMethod yX7_putWord, .selects RX7 yX7_putWord yX7_putWord, .code yX7_least cX7_least 6 (some .int), .code yX7_lower cX7_lower 4 none, .fieldLink RX7 259 "RingCircuitsModel" "scale" "I", .methodLink RX7 262 yX7_lower, .instanceMethod yX7_lower, .selects RX7 yX7_lower yX7_lower, .code yX7_state cX7_state 2 (some .int), .code yX7_amplitude cX7_amplitude 3 (some .long), .constantLong RX7 265 (3), .code yX7_scale cX7_scale 1 (some .int), .code yX7_weight cX7_weight 15 (some .long), .code yX7_measure cX7_measure 5 (some .boolean), .code yX7_row cX7_row 14 (some .int), .code yX7_type cX7_type 5 (some .int), .constantLong RX7 267 (8)]
def wA_34 : List Cond := [.constantLong RX7 269 (255), .constantLong RX7 271 (32), .constantLong RX7 273 (126), .code yX7_letterOf cX7_letterOf 1 (some .int), .code yX7_say cX7_say 2 none, .code yX7_print cX7_print 4 (some .int), .methodLink RX7 275 yX7_say, .instanceMethod yX7_say, .selects RX7 yX7_say yX7_say, .methodLink RX7 278 yX7_letterOf, .static yX7_letterOf, .code yX7_character cX7_character 2 (some .int), .code yX7_kindAt cX7_kindAt 3 (some .int), .code yX7_wireAt cX7_wireAt 3 (some .int), .methodLink RX7 281 yX7_kindAt, .instanceMethod yX7_kindAt, .selects RX7 yX7_kindAt yX7_kindAt, .methodLink RX7 284 yX7_wireAt, .instanceMethod yX7_wireAt, .selects RX7 yX7_wireAt yX7_wireAt, .code yX7_readGate cX7_readGate 6 (some .int), .methodLink RX7 287 yX7_readGate, .instanceMethod yX7_readGate, .selects RX7 yX7_readGate yX7_readGate, .code yX7_read cX7_read 4 (some .int)]
def wA_35 : List Cond := [.code yX7_place cX7_place 1 (some .int), .code yJ9_max_7cf53 cJ9_max_7cf53 2 (some .int), .code yJ9_min_7cf53 cJ9_min_7cf53 2 (some .int), .classLink RL 13 "java/lang/IllegalArgumentException", .methodLink RL 7 yX6_wires, .instanceMethod yX6_wires, .selects RX6 yX6_wires yX6_wires, .codeWith yL_wires cL_wires 3 (some .int) [(0, 5, 8, 13)], .classLink RL 19 "java/lang/IllegalStateException", .methodLink RL 15 yX6_gate, .instanceMethod yX6_gate, .selects RX6 yX6_gate yX6_gate, .codeWith yL_gate cL_gate 8 (some .int) [(0, 16, 19, 13), (0, 16, 23, 19)], .codeWith yL_clear cL_clear 3 (some .int) [(0, 5, 8, 13)], .methodLink RL 21 yX6_clear, .instanceMethod yX6_clear, .selects RX6 yX6_clear yX6_clear, .methodLink RL 24 yX6_append, .instanceMethod yX6_append, .selects RX6 yX6_append yX6_append, .codeWith yL_append cL_append 5 (some .int) [(0, 10, 13, 13), (0, 10, 17, 19)], .methodLink RL 28 yX6_inverse, .instanceMethod yX6_inverse, .selects RX6 yX6_inverse yX6_inverse, .codeWith yL_inverse cL_inverse 4 (some .int) [(0, 9, 12, 13), (0, 9, 15, 19)]]
def wA_36 : List Cond := [.methodLink RL 32 yX6_expand, .instanceMethod yX6_expand, .selects RX6 yX6_expand yX6_expand, .codeWith yL_expand cL_expand 4 (some .int) [(0, 9, 12, 13), (0, 9, 15, 19)], .methodLink RL 35 yX6_optimise, .instanceMethod yX6_optimise, .selects RX6 yX6_optimise yX6_optimise, .codeWith yL_optimise cL_optimise 4 (some .int) [(0, 9, 12, 13)], .methodLink RL 38 yX6_least, .instanceMethod yX6_least, .selects RX6 yX6_least yX6_least, .codeWith yL_least cL_least 4 (some .int) [(0, 9, 12, 13), (0, 9, 15, 19)], .methodLink RL 41 yX6_equal, .instanceMethod yX6_equal, .selects RX6 yX6_equal yX6_equal, .codeWith yL_equal cL_equal 5 (some .int) [(0, 10, 13, 13)], .methodLink RL 44 yX6_differ, .instanceMethod yX6_differ, .selects RX6 yX6_differ yX6_differ, .codeWith yL_differ cL_differ 5 (some .int) [(0, 10, 13, 13)], .methodLink RL 47 yX6_state, .instanceMethod yX6_state, .selects RX6 yX6_state yX6_state, .codeWith yL_state cL_state 4 (some .int) [(0, 9, 12, 13)], .codeWith yL_amplitude cL_amplitude 5 (some .int) [(0, 9, 12, 19), (0, 9, 16, 54)]]
def wA_37 : List Cond := [.classLink RL 54 "java/lang/IndexOutOfBoundsException", .methodLink RL 50 yX6_amplitude, .instanceMethod yX6_amplitude, .selects RX6 yX6_amplitude yX6_amplitude, .methodLink RL 56 yX6_weight, .instanceMethod yX6_weight, .selects RX6 yX6_weight yX6_weight, .codeWith yL_weight cL_weight 6 (some .int) [(0, 11, 14, 19), (0, 11, 18, 54)], .methodLink RL 60 yX6_measure, .instanceMethod yX6_measure, .selects RX6 yX6_measure yX6_measure, .codeWith yL_measure cL_measure 5 (some .int) [(0, 17, 20, 19), (0, 17, 24, 54)], .methodLink RL 64 yX6_row, .instanceMethod yX6_row, .selects RX6 yX6_row yX6_row, .codeWith yL_row cL_row 5 (some .int) [(0, 10, 13, 13), (0, 10, 17, 19)], .methodLink RL 67 yX6_print, .instanceMethod yX6_print, .selects RX6 yX6_print yX6_print, .codeWith yL_print cL_print 4 (some .int) [(0, 9, 12, 13)], .methodLink RL 70 yX6_read, .instanceMethod yX6_read, .selects RX6 yX6_read yX6_read, .codeWith yL_read cL_read 4 (some .int) [(0, 9, 12, 13)], .classLink RL 8 RX6]
def wA_38 : List Cond := [.instantiable RX6 14, .classLink RL 74 RX7, .instantiable RX7 31, .constantLong RL 149 (4294967295), .methodLink RL 73 yX6_init, .instanceMethod yX6_init, .methodLink RL 76 yX7_init, .instanceMethod yX7_init, .methodLink RL 77 yL_wires, .static yL_wires, .initialized RL, .methodLink RL 82 yX7_wires, .instanceMethod yX7_wires, .selects RX7 yX7_wires yX7_wires, .methodLink RL 83 yX7_thrown, .instanceMethod yX7_thrown, .selects RX7 yX7_thrown yX7_thrown, .methodLink RL 87 yL_gate, .static yL_gate, .methodLink RL 90 yX7_gate, .instanceMethod yX7_gate, .selects RX7 yX7_gate yX7_gate, .methodLink RL 91 yX6_size, .instanceMethod yX6_size, .selects RX6 yX6_size yX6_size]
def wA_39 : List Cond := [.methodLink RL 94 yX7_size, .instanceMethod yX7_size, .selects RX7 yX7_size yX7_size, .methodLink RL 95 yX6_gateAt, .instanceMethod yX6_gateAt, .selects RX6 yX6_gateAt yX6_gateAt, .methodLink RL 98 yX7_gateAt, .instanceMethod yX7_gateAt, .selects RX7 yX7_gateAt yX7_gateAt, .methodLink RL 99 yL_clear, .static yL_clear, .methodLink RL 101 yX7_clear, .instanceMethod yX7_clear, .selects RX7 yX7_clear yX7_clear, .methodLink RL 102 yL_append, .static yL_append, .methodLink RL 105 yX7_append, .instanceMethod yX7_append, .selects RX7 yX7_append yX7_append, .methodLink RL 106 yL_inverse, .static yL_inverse, .methodLink RL 109 yX7_inverse, .instanceMethod yX7_inverse, .selects RX7 yX7_inverse yX7_inverse, .methodLink RL 110 yL_expand]
def wA_40 : List Cond := [.static yL_expand, .methodLink RL 112 yX7_expand, .instanceMethod yX7_expand, .selects RX7 yX7_expand yX7_expand, .methodLink RL 113 yL_optimise, .static yL_optimise, .methodLink RL 115 yX7_optimise, .instanceMethod yX7_optimise, .selects RX7 yX7_optimise yX7_optimise, .methodLink RL 116 yL_least, .static yL_least, .methodLink RL 118 yX7_least, .instanceMethod yX7_least, .selects RX7 yX7_least yX7_least, .methodLink RL 119 yL_equal, .static yL_equal, .methodLink RL 121 yX7_equal, .instanceMethod yX7_equal, .selects RX7 yX7_equal yX7_equal, .methodLink RL 122 yX6_phase, .instanceMethod yX6_phase, .selects RX6 yX6_phase yX6_phase, .methodLink RL 125 yX7_phase, .instanceMethod yX7_phase, .selects RX7 yX7_phase yX7_phase]
def wA_41 : List Cond := [.methodLink RL 126 yL_differ, .static yL_differ, .methodLink RL 128 yX7_differ, .instanceMethod yX7_differ, .selects RX7 yX7_differ yX7_differ, .methodLink RL 129 yL_state, .static yL_state, .methodLink RL 131 yX7_state, .instanceMethod yX7_state, .selects RX7 yX7_state yX7_state, .methodLink RL 132 yL_amplitude, .static yL_amplitude, .methodLink RL 134 yX7_amplitude, .instanceMethod yX7_amplitude, .selects RX7 yX7_amplitude yX7_amplitude, .methodLink RL 135 yX6_scale, .instanceMethod yX6_scale, .selects RX6 yX6_scale yX6_scale, .methodLink RL 138 yX7_scale, .instanceMethod yX7_scale, .selects RX7 yX7_scale yX7_scale, .methodLink RL 139 yL_weight, .static yL_weight, .methodLink RL 142 yX7_weight, .instanceMethod yX7_weight]
def wA_42 : List Cond := [.selects RX7 yX7_weight yX7_weight, .methodLink RL 143 yL_measure, .static yL_measure, .methodLink RL 145 yX7_measure, .instanceMethod yX7_measure, .selects RX7 yX7_measure yX7_measure, .methodLink RL 146 yL_row, .static yL_row, .methodLink RL 148 yX7_row, .instanceMethod yX7_row, .selects RX7 yX7_row yX7_row, .methodLink RL 151 yX6_type, .instanceMethod yX6_type, .selects RX6 yX6_type yX6_type, .methodLink RL 155 yX7_type, .instanceMethod yX7_type, .selects RX7 yX7_type yX7_type, .methodLink RL 156 yL_print, .static yL_print, .methodLink RL 158 yX7_print, .instanceMethod yX7_print, .selects RX7 yX7_print yX7_print, .methodLink RL 159 yX6_character, .instanceMethod yX6_character, .selects RX6 yX6_character yX6_character]
def wA_43 : List Cond := [.methodLink RL 162 yX7_character, .instanceMethod yX7_character, .selects RX7 yX7_character yX7_character, .methodLink RL 163 yL_read, .static yL_read, .methodLink RL 165 yX7_read, .instanceMethod yX7_read, .selects RX7 yX7_read yX7_read, .methodLink RL 166 yX6_place, .instanceMethod yX6_place, .selects RX6 yX6_place yX6_place, .methodLink RL 169 yX7_place, .instanceMethod yX7_place, .selects RX7 yX7_place yX7_place]
def wT_0 : List Cond := (vx_atS RX6 77 "java/lang/IllegalArgumentException" ["java/lang/RuntimeException", "java/lang/Exception"]).filter goodWord
def wT_1 : List Cond := (vx_atS RX6 104 "java/lang/IllegalStateException" ["java/lang/RuntimeException", "java/lang/Exception"]).filter goodWord
def wT_2 : List Cond := (vx_atS RX6 205 "java/lang/IndexOutOfBoundsException" ["java/lang/RuntimeException", "java/lang/Exception"]).filter goodWord
def wA : List Cond := wA_0 ++ (wA_1 ++ (wA_2 ++ (wA_3 ++ (wA_4 ++ (wA_5 ++ (wA_6 ++ (wA_7 ++ (wA_8 ++ (wA_9 ++ (wA_10 ++ (wA_11 ++ (wA_12 ++ (wA_13 ++ (wA_14 ++ (wA_15 ++ (wA_16 ++ (wA_17 ++ (wA_18 ++ (wA_19 ++ (wA_20 ++ (wA_21 ++ (wA_22 ++ (wA_23 ++ (wA_24 ++ (wA_25 ++ (wA_26 ++ (wA_27 ++ (wA_28 ++ (wA_29 ++ (wA_30 ++ (wA_31 ++ (wA_32 ++ (wA_33 ++ (wA_34 ++ (wA_35 ++ (wA_36 ++ (wA_37 ++ (wA_38 ++ (wA_39 ++ (wA_40 ++ (wA_41 ++ (wA_42 ++ (wA_43 ++ (wsX00 ++ (wsX10 ++ (wsX30 ++ (wsX40 ++ (wsX50 ++ (wsX60 ++ (wsX70 ++ (wT_0 ++ (wT_1 ++ (wT_2)))))))))))))))))))))))))))))))))))))))))))))))))))))
theorem wi_wA_0 : ∀ w ∈ wA_0, w ∈ wA := fun w h => (List.mem_append_left _ h)
theorem wi_wA_1 : ∀ w ∈ wA_1, w ∈ wA := fun w h => (List.mem_append_right _ (List.mem_append_left _ h))
theorem wi_wA_2 : ∀ w ∈ wA_2, w ∈ wA := fun w h => (List.mem_append_right _ (List.mem_append_right _ (List.mem_append_left _ h)))
theorem wi_wA_3 : ∀ w ∈ wA_3, w ∈ wA := fun w h => (List.mem_append_right _ (List.mem_append_right _ (List.mem_append_right _ (List.mem_append_left _ h))))
theorem wi_wA_4 : ∀ w ∈ wA_4, w ∈ wA := fun w h => (List.mem_append_right _ (List.mem_append_right _ (List.mem_append_right _ (List.mem_append_right _ (List.mem_append_left _ h)))))
theorem wi_wA_5 : ∀ w ∈ wA_5, w ∈ wA := fun w h => (List.mem_append_right _ (List.mem_append_right _ (List.mem_append_right _ (List.mem_append_right _ (List.mem_append_right _ (List.mem_append_left _ h))))))
theorem wi_wA_6 : ∀ w ∈ wA_6, w ∈ wA := fun w h => (List.mem_append_right _ (List.mem_append_right _ (List.mem_append_right _ (List.mem_append_right _ (List.mem_append_right _ (List.mem_append_right _ (List.mem_append_left _ h)))))))
theorem wi_wA_7 : ∀ w ∈ wA_7, w ∈ wA := fun w h => (List.mem_append_right _ (List.mem_append_right _ (List.mem_append_right _ (List.mem_append_right _ (List.mem_append_right _ (List.mem_append_right _ (List.mem_append_right _ (List.mem_append_left _ h))))))))
theorem wi_wA_8 : ∀ w ∈ wA_8, w ∈ wA := fun w h => (List.mem_append_right _ (List.mem_append_right _ (List.mem_append_right _ (List.mem_append_right _ (List.mem_append_right _ (List.mem_append_right _ (List.mem_append_right _ (List.mem_append_right _ (List.mem_append_left _ h)))))))))
theorem wi_wA_9 : ∀ w ∈ wA_9, w ∈ wA := fun w h => (List.mem_append_right _ (List.mem_append_right _ (List.mem_append_right _ (List.mem_append_right _ (List.mem_append_right _ (List.mem_append_right _ (List.mem_append_right _ (List.mem_append_right _ (List.mem_append_right _ (List.mem_append_left _ h))))))))))
theorem wi_wA_10 : ∀ w ∈ wA_10, w ∈ wA := fun w h => (List.mem_append_right _ (List.mem_append_right _ (List.mem_append_right _ (List.mem_append_right _ (List.mem_append_right _ (List.mem_append_right _ (List.mem_append_right _ (List.mem_append_right _ (List.mem_append_right _ (List.mem_append_right _ (List.mem_append_left _ h)))))))))))
theorem wi_wA_11 : ∀ w ∈ wA_11, w ∈ wA := fun w h => (List.mem_append_right _ (List.mem_append_right _ (List.mem_append_right _ (List.mem_append_right _ (List.mem_append_right _ (List.mem_append_right _ (List.mem_append_right _ (List.mem_append_right _ (List.mem_append_right _ (List.mem_append_right _ (List.mem_append_right _ (List.mem_append_left _ h))))))))))))
theorem wi_wA_12 : ∀ w ∈ wA_12, w ∈ wA := fun w h => (List.mem_append_right _ (List.mem_append_right _ (List.mem_append_right _ (List.mem_append_right _ (List.mem_append_right _ (List.mem_append_right _ (List.mem_append_right _ (List.mem_append_right _ (List.mem_append_right _ (List.mem_append_right _ (List.mem_append_right _ (List.mem_append_right _ (List.mem_append_left _ h)))))))))))))
theorem wi_wA_13 : ∀ w ∈ wA_13, w ∈ wA := fun w h => (List.mem_append_right _ (List.mem_append_right _ (List.mem_append_right _ (List.mem_append_right _ (List.mem_append_right _ (List.mem_append_right _ (List.mem_append_right _ (List.mem_append_right _ (List.mem_append_right _ (List.mem_append_right _ (List.mem_append_right _ (List.mem_append_right _ (List.mem_append_right _ (List.mem_append_left _ h))))))))))))))
theorem wi_wA_14 : ∀ w ∈ wA_14, w ∈ wA := fun w h => (List.mem_append_right _ (List.mem_append_right _ (List.mem_append_right _ (List.mem_append_right _ (List.mem_append_right _ (List.mem_append_right _ (List.mem_append_right _ (List.mem_append_right _ (List.mem_append_right _ (List.mem_append_right _ (List.mem_append_right _ (List.mem_append_right _ (List.mem_append_right _ (List.mem_append_right _ (List.mem_append_left _ h)))))))))))))))
theorem wi_wA_15 : ∀ w ∈ wA_15, w ∈ wA := fun w h => (List.mem_append_right _ (List.mem_append_right _ (List.mem_append_right _ (List.mem_append_right _ (List.mem_append_right _ (List.mem_append_right _ (List.mem_append_right _ (List.mem_append_right _ (List.mem_append_right _ (List.mem_append_right _ (List.mem_append_right _ (List.mem_append_right _ (List.mem_append_right _ (List.mem_append_right _ (List.mem_append_right _ (List.mem_append_left _ h))))))))))))))))
theorem wi_wA_16 : ∀ w ∈ wA_16, w ∈ wA := fun w h => (List.mem_append_right _ (List.mem_append_right _ (List.mem_append_right _ (List.mem_append_right _ (List.mem_append_right _ (List.mem_append_right _ (List.mem_append_right _ (List.mem_append_right _ (List.mem_append_right _ (List.mem_append_right _ (List.mem_append_right _ (List.mem_append_right _ (List.mem_append_right _ (List.mem_append_right _ (List.mem_append_right _ (List.mem_append_right _ (List.mem_append_left _ h)))))))))))))))))
theorem wi_wA_17 : ∀ w ∈ wA_17, w ∈ wA := fun w h => (List.mem_append_right _ (List.mem_append_right _ (List.mem_append_right _ (List.mem_append_right _ (List.mem_append_right _ (List.mem_append_right _ (List.mem_append_right _ (List.mem_append_right _ (List.mem_append_right _ (List.mem_append_right _ (List.mem_append_right _ (List.mem_append_right _ (List.mem_append_right _ (List.mem_append_right _ (List.mem_append_right _ (List.mem_append_right _ (List.mem_append_right _ (List.mem_append_left _ h))))))))))))))))))
theorem wi_wA_18 : ∀ w ∈ wA_18, w ∈ wA := fun w h => (List.mem_append_right _ (List.mem_append_right _ (List.mem_append_right _ (List.mem_append_right _ (List.mem_append_right _ (List.mem_append_right _ (List.mem_append_right _ (List.mem_append_right _ (List.mem_append_right _ (List.mem_append_right _ (List.mem_append_right _ (List.mem_append_right _ (List.mem_append_right _ (List.mem_append_right _ (List.mem_append_right _ (List.mem_append_right _ (List.mem_append_right _ (List.mem_append_right _ (List.mem_append_left _ h)))))))))))))))))))
theorem wi_wA_19 : ∀ w ∈ wA_19, w ∈ wA := fun w h => (List.mem_append_right _ (List.mem_append_right _ (List.mem_append_right _ (List.mem_append_right _ (List.mem_append_right _ (List.mem_append_right _ (List.mem_append_right _ (List.mem_append_right _ (List.mem_append_right _ (List.mem_append_right _ (List.mem_append_right _ (List.mem_append_right _ (List.mem_append_right _ (List.mem_append_right _ (List.mem_append_right _ (List.mem_append_right _ (List.mem_append_right _ (List.mem_append_right _ (List.mem_append_right _ (List.mem_append_left _ h))))))))))))))))))))
theorem wi_wA_20 : ∀ w ∈ wA_20, w ∈ wA := fun w h => (List.mem_append_right _ (List.mem_append_right _ (List.mem_append_right _ (List.mem_append_right _ (List.mem_append_right _ (List.mem_append_right _ (List.mem_append_right _ (List.mem_append_right _ (List.mem_append_right _ (List.mem_append_right _ (List.mem_append_right _ (List.mem_append_right _ (List.mem_append_right _ (List.mem_append_right _ (List.mem_append_right _ (List.mem_append_right _ (List.mem_append_right _ (List.mem_append_right _ (List.mem_append_right _ (List.mem_append_right _ (List.mem_append_left _ h)))))))))))))))))))))
theorem wi_wA_21 : ∀ w ∈ wA_21, w ∈ wA := fun w h => (List.mem_append_right _ (List.mem_append_right _ (List.mem_append_right _ (List.mem_append_right _ (List.mem_append_right _ (List.mem_append_right _ (List.mem_append_right _ (List.mem_append_right _ (List.mem_append_right _ (List.mem_append_right _ (List.mem_append_right _ (List.mem_append_right _ (List.mem_append_right _ (List.mem_append_right _ (List.mem_append_right _ (List.mem_append_right _ (List.mem_append_right _ (List.mem_append_right _ (List.mem_append_right _ (List.mem_append_right _ (List.mem_append_right _ (List.mem_append_left _ h))))))))))))))))))))))
theorem wi_wA_22 : ∀ w ∈ wA_22, w ∈ wA := fun w h => (List.mem_append_right _ (List.mem_append_right _ (List.mem_append_right _ (List.mem_append_right _ (List.mem_append_right _ (List.mem_append_right _ (List.mem_append_right _ (List.mem_append_right _ (List.mem_append_right _ (List.mem_append_right _ (List.mem_append_right _ (List.mem_append_right _ (List.mem_append_right _ (List.mem_append_right _ (List.mem_append_right _ (List.mem_append_right _ (List.mem_append_right _ (List.mem_append_right _ (List.mem_append_right _ (List.mem_append_right _ (List.mem_append_right _ (List.mem_append_right _ (List.mem_append_left _ h)))))))))))))))))))))))
theorem wi_wA_23 : ∀ w ∈ wA_23, w ∈ wA := fun w h => (List.mem_append_right _ (List.mem_append_right _ (List.mem_append_right _ (List.mem_append_right _ (List.mem_append_right _ (List.mem_append_right _ (List.mem_append_right _ (List.mem_append_right _ (List.mem_append_right _ (List.mem_append_right _ (List.mem_append_right _ (List.mem_append_right _ (List.mem_append_right _ (List.mem_append_right _ (List.mem_append_right _ (List.mem_append_right _ (List.mem_append_right _ (List.mem_append_right _ (List.mem_append_right _ (List.mem_append_right _ (List.mem_append_right _ (List.mem_append_right _ (List.mem_append_right _ (List.mem_append_left _ h))))))))))))))))))))))))
theorem wi_wA_24 : ∀ w ∈ wA_24, w ∈ wA := fun w h => (List.mem_append_right _ (List.mem_append_right _ (List.mem_append_right _ (List.mem_append_right _ (List.mem_append_right _ (List.mem_append_right _ (List.mem_append_right _ (List.mem_append_right _ (List.mem_append_right _ (List.mem_append_right _ (List.mem_append_right _ (List.mem_append_right _ (List.mem_append_right _ (List.mem_append_right _ (List.mem_append_right _ (List.mem_append_right _ (List.mem_append_right _ (List.mem_append_right _ (List.mem_append_right _ (List.mem_append_right _ (List.mem_append_right _ (List.mem_append_right _ (List.mem_append_right _ (List.mem_append_right _ (List.mem_append_left _ h)))))))))))))))))))))))))
theorem wi_wA_25 : ∀ w ∈ wA_25, w ∈ wA := fun w h => (List.mem_append_right _ (List.mem_append_right _ (List.mem_append_right _ (List.mem_append_right _ (List.mem_append_right _ (List.mem_append_right _ (List.mem_append_right _ (List.mem_append_right _ (List.mem_append_right _ (List.mem_append_right _ (List.mem_append_right _ (List.mem_append_right _ (List.mem_append_right _ (List.mem_append_right _ (List.mem_append_right _ (List.mem_append_right _ (List.mem_append_right _ (List.mem_append_right _ (List.mem_append_right _ (List.mem_append_right _ (List.mem_append_right _ (List.mem_append_right _ (List.mem_append_right _ (List.mem_append_right _ (List.mem_append_right _ (List.mem_append_left _ h))))))))))))))))))))))))))
theorem wi_wA_26 : ∀ w ∈ wA_26, w ∈ wA := fun w h => (List.mem_append_right _ (List.mem_append_right _ (List.mem_append_right _ (List.mem_append_right _ (List.mem_append_right _ (List.mem_append_right _ (List.mem_append_right _ (List.mem_append_right _ (List.mem_append_right _ (List.mem_append_right _ (List.mem_append_right _ (List.mem_append_right _ (List.mem_append_right _ (List.mem_append_right _ (List.mem_append_right _ (List.mem_append_right _ (List.mem_append_right _ (List.mem_append_right _ (List.mem_append_right _ (List.mem_append_right _ (List.mem_append_right _ (List.mem_append_right _ (List.mem_append_right _ (List.mem_append_right _ (List.mem_append_right _ (List.mem_append_right _ (List.mem_append_left _ h)))))))))))))))))))))))))))
theorem wi_wA_27 : ∀ w ∈ wA_27, w ∈ wA := fun w h => (List.mem_append_right _ (List.mem_append_right _ (List.mem_append_right _ (List.mem_append_right _ (List.mem_append_right _ (List.mem_append_right _ (List.mem_append_right _ (List.mem_append_right _ (List.mem_append_right _ (List.mem_append_right _ (List.mem_append_right _ (List.mem_append_right _ (List.mem_append_right _ (List.mem_append_right _ (List.mem_append_right _ (List.mem_append_right _ (List.mem_append_right _ (List.mem_append_right _ (List.mem_append_right _ (List.mem_append_right _ (List.mem_append_right _ (List.mem_append_right _ (List.mem_append_right _ (List.mem_append_right _ (List.mem_append_right _ (List.mem_append_right _ (List.mem_append_right _ (List.mem_append_left _ h))))))))))))))))))))))))))))
theorem wi_wA_28 : ∀ w ∈ wA_28, w ∈ wA := fun w h => (List.mem_append_right _ (List.mem_append_right _ (List.mem_append_right _ (List.mem_append_right _ (List.mem_append_right _ (List.mem_append_right _ (List.mem_append_right _ (List.mem_append_right _ (List.mem_append_right _ (List.mem_append_right _ (List.mem_append_right _ (List.mem_append_right _ (List.mem_append_right _ (List.mem_append_right _ (List.mem_append_right _ (List.mem_append_right _ (List.mem_append_right _ (List.mem_append_right _ (List.mem_append_right _ (List.mem_append_right _ (List.mem_append_right _ (List.mem_append_right _ (List.mem_append_right _ (List.mem_append_right _ (List.mem_append_right _ (List.mem_append_right _ (List.mem_append_right _ (List.mem_append_right _ (List.mem_append_left _ h)))))))))))))))))))))))))))))
theorem wi_wA_29 : ∀ w ∈ wA_29, w ∈ wA := fun w h => (List.mem_append_right _ (List.mem_append_right _ (List.mem_append_right _ (List.mem_append_right _ (List.mem_append_right _ (List.mem_append_right _ (List.mem_append_right _ (List.mem_append_right _ (List.mem_append_right _ (List.mem_append_right _ (List.mem_append_right _ (List.mem_append_right _ (List.mem_append_right _ (List.mem_append_right _ (List.mem_append_right _ (List.mem_append_right _ (List.mem_append_right _ (List.mem_append_right _ (List.mem_append_right _ (List.mem_append_right _ (List.mem_append_right _ (List.mem_append_right _ (List.mem_append_right _ (List.mem_append_right _ (List.mem_append_right _ (List.mem_append_right _ (List.mem_append_right _ (List.mem_append_right _ (List.mem_append_right _ (List.mem_append_left _ h))))))))))))))))))))))))))))))
theorem wi_wA_30 : ∀ w ∈ wA_30, w ∈ wA := fun w h => (List.mem_append_right _ (List.mem_append_right _ (List.mem_append_right _ (List.mem_append_right _ (List.mem_append_right _ (List.mem_append_right _ (List.mem_append_right _ (List.mem_append_right _ (List.mem_append_right _ (List.mem_append_right _ (List.mem_append_right _ (List.mem_append_right _ (List.mem_append_right _ (List.mem_append_right _ (List.mem_append_right _ (List.mem_append_right _ (List.mem_append_right _ (List.mem_append_right _ (List.mem_append_right _ (List.mem_append_right _ (List.mem_append_right _ (List.mem_append_right _ (List.mem_append_right _ (List.mem_append_right _ (List.mem_append_right _ (List.mem_append_right _ (List.mem_append_right _ (List.mem_append_right _ (List.mem_append_right _ (List.mem_append_right _ (List.mem_append_left _ h)))))))))))))))))))))))))))))))
theorem wi_wA_31 : ∀ w ∈ wA_31, w ∈ wA := fun w h => (List.mem_append_right _ (List.mem_append_right _ (List.mem_append_right _ (List.mem_append_right _ (List.mem_append_right _ (List.mem_append_right _ (List.mem_append_right _ (List.mem_append_right _ (List.mem_append_right _ (List.mem_append_right _ (List.mem_append_right _ (List.mem_append_right _ (List.mem_append_right _ (List.mem_append_right _ (List.mem_append_right _ (List.mem_append_right _ (List.mem_append_right _ (List.mem_append_right _ (List.mem_append_right _ (List.mem_append_right _ (List.mem_append_right _ (List.mem_append_right _ (List.mem_append_right _ (List.mem_append_right _ (List.mem_append_right _ (List.mem_append_right _ (List.mem_append_right _ (List.mem_append_right _ (List.mem_append_right _ (List.mem_append_right _ (List.mem_append_right _ (List.mem_append_left _ h))))))))))))))))))))))))))))))))
theorem wi_wA_32 : ∀ w ∈ wA_32, w ∈ wA := fun w h => (List.mem_append_right _ (List.mem_append_right _ (List.mem_append_right _ (List.mem_append_right _ (List.mem_append_right _ (List.mem_append_right _ (List.mem_append_right _ (List.mem_append_right _ (List.mem_append_right _ (List.mem_append_right _ (List.mem_append_right _ (List.mem_append_right _ (List.mem_append_right _ (List.mem_append_right _ (List.mem_append_right _ (List.mem_append_right _ (List.mem_append_right _ (List.mem_append_right _ (List.mem_append_right _ (List.mem_append_right _ (List.mem_append_right _ (List.mem_append_right _ (List.mem_append_right _ (List.mem_append_right _ (List.mem_append_right _ (List.mem_append_right _ (List.mem_append_right _ (List.mem_append_right _ (List.mem_append_right _ (List.mem_append_right _ (List.mem_append_right _ (List.mem_append_right _ (List.mem_append_left _ h)))))))))))))))))))))))))))))))))
theorem wi_wA_33 : ∀ w ∈ wA_33, w ∈ wA := fun w h => (List.mem_append_right _ (List.mem_append_right _ (List.mem_append_right _ (List.mem_append_right _ (List.mem_append_right _ (List.mem_append_right _ (List.mem_append_right _ (List.mem_append_right _ (List.mem_append_right _ (List.mem_append_right _ (List.mem_append_right _ (List.mem_append_right _ (List.mem_append_right _ (List.mem_append_right _ (List.mem_append_right _ (List.mem_append_right _ (List.mem_append_right _ (List.mem_append_right _ (List.mem_append_right _ (List.mem_append_right _ (List.mem_append_right _ (List.mem_append_right _ (List.mem_append_right _ (List.mem_append_right _ (List.mem_append_right _ (List.mem_append_right _ (List.mem_append_right _ (List.mem_append_right _ (List.mem_append_right _ (List.mem_append_right _ (List.mem_append_right _ (List.mem_append_right _ (List.mem_append_right _ (List.mem_append_left _ h))))))))))))))))))))))))))))))))))
theorem wi_wA_34 : ∀ w ∈ wA_34, w ∈ wA := fun w h => (List.mem_append_right _ (List.mem_append_right _ (List.mem_append_right _ (List.mem_append_right _ (List.mem_append_right _ (List.mem_append_right _ (List.mem_append_right _ (List.mem_append_right _ (List.mem_append_right _ (List.mem_append_right _ (List.mem_append_right _ (List.mem_append_right _ (List.mem_append_right _ (List.mem_append_right _ (List.mem_append_right _ (List.mem_append_right _ (List.mem_append_right _ (List.mem_append_right _ (List.mem_append_right _ (List.mem_append_right _ (List.mem_append_right _ (List.mem_append_right _ (List.mem_append_right _ (List.mem_append_right _ (List.mem_append_right _ (List.mem_append_right _ (List.mem_append_right _ (List.mem_append_right _ (List.mem_append_right _ (List.mem_append_right _ (List.mem_append_right _ (List.mem_append_right _ (List.mem_append_right _ (List.mem_append_right _ (List.mem_append_left _ h)))))))))))))))))))))))))))))))))))
theorem wi_wA_35 : ∀ w ∈ wA_35, w ∈ wA := fun w h => (List.mem_append_right _ (List.mem_append_right _ (List.mem_append_right _ (List.mem_append_right _ (List.mem_append_right _ (List.mem_append_right _ (List.mem_append_right _ (List.mem_append_right _ (List.mem_append_right _ (List.mem_append_right _ (List.mem_append_right _ (List.mem_append_right _ (List.mem_append_right _ (List.mem_append_right _ (List.mem_append_right _ (List.mem_append_right _ (List.mem_append_right _ (List.mem_append_right _ (List.mem_append_right _ (List.mem_append_right _ (List.mem_append_right _ (List.mem_append_right _ (List.mem_append_right _ (List.mem_append_right _ (List.mem_append_right _ (List.mem_append_right _ (List.mem_append_right _ (List.mem_append_right _ (List.mem_append_right _ (List.mem_append_right _ (List.mem_append_right _ (List.mem_append_right _ (List.mem_append_right _ (List.mem_append_right _ (List.mem_append_right _ (List.mem_append_left _ h))))))))))))))))))))))))))))))))))))
theorem wi_wA_36 : ∀ w ∈ wA_36, w ∈ wA := fun w h => (List.mem_append_right _ (List.mem_append_right _ (List.mem_append_right _ (List.mem_append_right _ (List.mem_append_right _ (List.mem_append_right _ (List.mem_append_right _ (List.mem_append_right _ (List.mem_append_right _ (List.mem_append_right _ (List.mem_append_right _ (List.mem_append_right _ (List.mem_append_right _ (List.mem_append_right _ (List.mem_append_right _ (List.mem_append_right _ (List.mem_append_right _ (List.mem_append_right _ (List.mem_append_right _ (List.mem_append_right _ (List.mem_append_right _ (List.mem_append_right _ (List.mem_append_right _ (List.mem_append_right _ (List.mem_append_right _ (List.mem_append_right _ (List.mem_append_right _ (List.mem_append_right _ (List.mem_append_right _ (List.mem_append_right _ (List.mem_append_right _ (List.mem_append_right _ (List.mem_append_right _ (List.mem_append_right _ (List.mem_append_right _ (List.mem_append_right _ (List.mem_append_left _ h)))))))))))))))))))))))))))))))))))))
theorem wi_wA_37 : ∀ w ∈ wA_37, w ∈ wA := fun w h => (List.mem_append_right _ (List.mem_append_right _ (List.mem_append_right _ (List.mem_append_right _ (List.mem_append_right _ (List.mem_append_right _ (List.mem_append_right _ (List.mem_append_right _ (List.mem_append_right _ (List.mem_append_right _ (List.mem_append_right _ (List.mem_append_right _ (List.mem_append_right _ (List.mem_append_right _ (List.mem_append_right _ (List.mem_append_right _ (List.mem_append_right _ (List.mem_append_right _ (List.mem_append_right _ (List.mem_append_right _ (List.mem_append_right _ (List.mem_append_right _ (List.mem_append_right _ (List.mem_append_right _ (List.mem_append_right _ (List.mem_append_right _ (List.mem_append_right _ (List.mem_append_right _ (List.mem_append_right _ (List.mem_append_right _ (List.mem_append_right _ (List.mem_append_right _ (List.mem_append_right _ (List.mem_append_right _ (List.mem_append_right _ (List.mem_append_right _ (List.mem_append_right _ (List.mem_append_left _ h))))))))))))))))))))))))))))))))))))))
theorem wi_wA_38 : ∀ w ∈ wA_38, w ∈ wA := fun w h => (List.mem_append_right _ (List.mem_append_right _ (List.mem_append_right _ (List.mem_append_right _ (List.mem_append_right _ (List.mem_append_right _ (List.mem_append_right _ (List.mem_append_right _ (List.mem_append_right _ (List.mem_append_right _ (List.mem_append_right _ (List.mem_append_right _ (List.mem_append_right _ (List.mem_append_right _ (List.mem_append_right _ (List.mem_append_right _ (List.mem_append_right _ (List.mem_append_right _ (List.mem_append_right _ (List.mem_append_right _ (List.mem_append_right _ (List.mem_append_right _ (List.mem_append_right _ (List.mem_append_right _ (List.mem_append_right _ (List.mem_append_right _ (List.mem_append_right _ (List.mem_append_right _ (List.mem_append_right _ (List.mem_append_right _ (List.mem_append_right _ (List.mem_append_right _ (List.mem_append_right _ (List.mem_append_right _ (List.mem_append_right _ (List.mem_append_right _ (List.mem_append_right _ (List.mem_append_right _ (List.mem_append_left _ h)))))))))))))))))))))))))))))))))))))))
theorem wi_wA_39 : ∀ w ∈ wA_39, w ∈ wA := fun w h => (List.mem_append_right _ (List.mem_append_right _ (List.mem_append_right _ (List.mem_append_right _ (List.mem_append_right _ (List.mem_append_right _ (List.mem_append_right _ (List.mem_append_right _ (List.mem_append_right _ (List.mem_append_right _ (List.mem_append_right _ (List.mem_append_right _ (List.mem_append_right _ (List.mem_append_right _ (List.mem_append_right _ (List.mem_append_right _ (List.mem_append_right _ (List.mem_append_right _ (List.mem_append_right _ (List.mem_append_right _ (List.mem_append_right _ (List.mem_append_right _ (List.mem_append_right _ (List.mem_append_right _ (List.mem_append_right _ (List.mem_append_right _ (List.mem_append_right _ (List.mem_append_right _ (List.mem_append_right _ (List.mem_append_right _ (List.mem_append_right _ (List.mem_append_right _ (List.mem_append_right _ (List.mem_append_right _ (List.mem_append_right _ (List.mem_append_right _ (List.mem_append_right _ (List.mem_append_right _ (List.mem_append_right _ (List.mem_append_left _ h))))))))))))))))))))))))))))))))))))))))
theorem wi_wA_40 : ∀ w ∈ wA_40, w ∈ wA := fun w h => (List.mem_append_right _ (List.mem_append_right _ (List.mem_append_right _ (List.mem_append_right _ (List.mem_append_right _ (List.mem_append_right _ (List.mem_append_right _ (List.mem_append_right _ (List.mem_append_right _ (List.mem_append_right _ (List.mem_append_right _ (List.mem_append_right _ (List.mem_append_right _ (List.mem_append_right _ (List.mem_append_right _ (List.mem_append_right _ (List.mem_append_right _ (List.mem_append_right _ (List.mem_append_right _ (List.mem_append_right _ (List.mem_append_right _ (List.mem_append_right _ (List.mem_append_right _ (List.mem_append_right _ (List.mem_append_right _ (List.mem_append_right _ (List.mem_append_right _ (List.mem_append_right _ (List.mem_append_right _ (List.mem_append_right _ (List.mem_append_right _ (List.mem_append_right _ (List.mem_append_right _ (List.mem_append_right _ (List.mem_append_right _ (List.mem_append_right _ (List.mem_append_right _ (List.mem_append_right _ (List.mem_append_right _ (List.mem_append_right _ (List.mem_append_left _ h)))))))))))))))))))))))))))))))))))))))))
theorem wi_wA_41 : ∀ w ∈ wA_41, w ∈ wA := fun w h => (List.mem_append_right _ (List.mem_append_right _ (List.mem_append_right _ (List.mem_append_right _ (List.mem_append_right _ (List.mem_append_right _ (List.mem_append_right _ (List.mem_append_right _ (List.mem_append_right _ (List.mem_append_right _ (List.mem_append_right _ (List.mem_append_right _ (List.mem_append_right _ (List.mem_append_right _ (List.mem_append_right _ (List.mem_append_right _ (List.mem_append_right _ (List.mem_append_right _ (List.mem_append_right _ (List.mem_append_right _ (List.mem_append_right _ (List.mem_append_right _ (List.mem_append_right _ (List.mem_append_right _ (List.mem_append_right _ (List.mem_append_right _ (List.mem_append_right _ (List.mem_append_right _ (List.mem_append_right _ (List.mem_append_right _ (List.mem_append_right _ (List.mem_append_right _ (List.mem_append_right _ (List.mem_append_right _ (List.mem_append_right _ (List.mem_append_right _ (List.mem_append_right _ (List.mem_append_right _ (List.mem_append_right _ (List.mem_append_right _ (List.mem_append_right _ (List.mem_append_left _ h))))))))))))))))))))))))))))))))))))))))))
theorem wi_wA_42 : ∀ w ∈ wA_42, w ∈ wA := fun w h => (List.mem_append_right _ (List.mem_append_right _ (List.mem_append_right _ (List.mem_append_right _ (List.mem_append_right _ (List.mem_append_right _ (List.mem_append_right _ (List.mem_append_right _ (List.mem_append_right _ (List.mem_append_right _ (List.mem_append_right _ (List.mem_append_right _ (List.mem_append_right _ (List.mem_append_right _ (List.mem_append_right _ (List.mem_append_right _ (List.mem_append_right _ (List.mem_append_right _ (List.mem_append_right _ (List.mem_append_right _ (List.mem_append_right _ (List.mem_append_right _ (List.mem_append_right _ (List.mem_append_right _ (List.mem_append_right _ (List.mem_append_right _ (List.mem_append_right _ (List.mem_append_right _ (List.mem_append_right _ (List.mem_append_right _ (List.mem_append_right _ (List.mem_append_right _ (List.mem_append_right _ (List.mem_append_right _ (List.mem_append_right _ (List.mem_append_right _ (List.mem_append_right _ (List.mem_append_right _ (List.mem_append_right _ (List.mem_append_right _ (List.mem_append_right _ (List.mem_append_right _ (List.mem_append_left _ h)))))))))))))))))))))))))))))))))))))))))))
theorem wi_wA_43 : ∀ w ∈ wA_43, w ∈ wA := fun w h => (List.mem_append_right _ (List.mem_append_right _ (List.mem_append_right _ (List.mem_append_right _ (List.mem_append_right _ (List.mem_append_right _ (List.mem_append_right _ (List.mem_append_right _ (List.mem_append_right _ (List.mem_append_right _ (List.mem_append_right _ (List.mem_append_right _ (List.mem_append_right _ (List.mem_append_right _ (List.mem_append_right _ (List.mem_append_right _ (List.mem_append_right _ (List.mem_append_right _ (List.mem_append_right _ (List.mem_append_right _ (List.mem_append_right _ (List.mem_append_right _ (List.mem_append_right _ (List.mem_append_right _ (List.mem_append_right _ (List.mem_append_right _ (List.mem_append_right _ (List.mem_append_right _ (List.mem_append_right _ (List.mem_append_right _ (List.mem_append_right _ (List.mem_append_right _ (List.mem_append_right _ (List.mem_append_right _ (List.mem_append_right _ (List.mem_append_right _ (List.mem_append_right _ (List.mem_append_right _ (List.mem_append_right _ (List.mem_append_right _ (List.mem_append_right _ (List.mem_append_right _ (List.mem_append_right _ (List.mem_append_left _ h))))))))))))))))))))))))))))))))))))))))))))
theorem wi_wsX00 : ∀ w ∈ wsX00, w ∈ wA := fun w h => (List.mem_append_right _ (List.mem_append_right _ (List.mem_append_right _ (List.mem_append_right _ (List.mem_append_right _ (List.mem_append_right _ (List.mem_append_right _ (List.mem_append_right _ (List.mem_append_right _ (List.mem_append_right _ (List.mem_append_right _ (List.mem_append_right _ (List.mem_append_right _ (List.mem_append_right _ (List.mem_append_right _ (List.mem_append_right _ (List.mem_append_right _ (List.mem_append_right _ (List.mem_append_right _ (List.mem_append_right _ (List.mem_append_right _ (List.mem_append_right _ (List.mem_append_right _ (List.mem_append_right _ (List.mem_append_right _ (List.mem_append_right _ (List.mem_append_right _ (List.mem_append_right _ (List.mem_append_right _ (List.mem_append_right _ (List.mem_append_right _ (List.mem_append_right _ (List.mem_append_right _ (List.mem_append_right _ (List.mem_append_right _ (List.mem_append_right _ (List.mem_append_right _ (List.mem_append_right _ (List.mem_append_right _ (List.mem_append_right _ (List.mem_append_right _ (List.mem_append_right _ (List.mem_append_right _ (List.mem_append_right _ (List.mem_append_left _ h)))))))))))))))))))))))))))))))))))))))))))))
theorem wi_wsX10 : ∀ w ∈ wsX10, w ∈ wA := fun w h => (List.mem_append_right _ (List.mem_append_right _ (List.mem_append_right _ (List.mem_append_right _ (List.mem_append_right _ (List.mem_append_right _ (List.mem_append_right _ (List.mem_append_right _ (List.mem_append_right _ (List.mem_append_right _ (List.mem_append_right _ (List.mem_append_right _ (List.mem_append_right _ (List.mem_append_right _ (List.mem_append_right _ (List.mem_append_right _ (List.mem_append_right _ (List.mem_append_right _ (List.mem_append_right _ (List.mem_append_right _ (List.mem_append_right _ (List.mem_append_right _ (List.mem_append_right _ (List.mem_append_right _ (List.mem_append_right _ (List.mem_append_right _ (List.mem_append_right _ (List.mem_append_right _ (List.mem_append_right _ (List.mem_append_right _ (List.mem_append_right _ (List.mem_append_right _ (List.mem_append_right _ (List.mem_append_right _ (List.mem_append_right _ (List.mem_append_right _ (List.mem_append_right _ (List.mem_append_right _ (List.mem_append_right _ (List.mem_append_right _ (List.mem_append_right _ (List.mem_append_right _ (List.mem_append_right _ (List.mem_append_right _ (List.mem_append_right _ (List.mem_append_left _ h))))))))))))))))))))))))))))))))))))))))))))))
theorem wi_wsX30 : ∀ w ∈ wsX30, w ∈ wA := fun w h => (List.mem_append_right _ (List.mem_append_right _ (List.mem_append_right _ (List.mem_append_right _ (List.mem_append_right _ (List.mem_append_right _ (List.mem_append_right _ (List.mem_append_right _ (List.mem_append_right _ (List.mem_append_right _ (List.mem_append_right _ (List.mem_append_right _ (List.mem_append_right _ (List.mem_append_right _ (List.mem_append_right _ (List.mem_append_right _ (List.mem_append_right _ (List.mem_append_right _ (List.mem_append_right _ (List.mem_append_right _ (List.mem_append_right _ (List.mem_append_right _ (List.mem_append_right _ (List.mem_append_right _ (List.mem_append_right _ (List.mem_append_right _ (List.mem_append_right _ (List.mem_append_right _ (List.mem_append_right _ (List.mem_append_right _ (List.mem_append_right _ (List.mem_append_right _ (List.mem_append_right _ (List.mem_append_right _ (List.mem_append_right _ (List.mem_append_right _ (List.mem_append_right _ (List.mem_append_right _ (List.mem_append_right _ (List.mem_append_right _ (List.mem_append_right _ (List.mem_append_right _ (List.mem_append_right _ (List.mem_append_right _ (List.mem_append_right _ (List.mem_append_right _ (List.mem_append_left _ h)))))))))))))))))))))))))))))))))))))))))))))))
theorem wi_wsX40 : ∀ w ∈ wsX40, w ∈ wA := fun w h => (List.mem_append_right _ (List.mem_append_right _ (List.mem_append_right _ (List.mem_append_right _ (List.mem_append_right _ (List.mem_append_right _ (List.mem_append_right _ (List.mem_append_right _ (List.mem_append_right _ (List.mem_append_right _ (List.mem_append_right _ (List.mem_append_right _ (List.mem_append_right _ (List.mem_append_right _ (List.mem_append_right _ (List.mem_append_right _ (List.mem_append_right _ (List.mem_append_right _ (List.mem_append_right _ (List.mem_append_right _ (List.mem_append_right _ (List.mem_append_right _ (List.mem_append_right _ (List.mem_append_right _ (List.mem_append_right _ (List.mem_append_right _ (List.mem_append_right _ (List.mem_append_right _ (List.mem_append_right _ (List.mem_append_right _ (List.mem_append_right _ (List.mem_append_right _ (List.mem_append_right _ (List.mem_append_right _ (List.mem_append_right _ (List.mem_append_right _ (List.mem_append_right _ (List.mem_append_right _ (List.mem_append_right _ (List.mem_append_right _ (List.mem_append_right _ (List.mem_append_right _ (List.mem_append_right _ (List.mem_append_right _ (List.mem_append_right _ (List.mem_append_right _ (List.mem_append_right _ (List.mem_append_left _ h))))))))))))))))))))))))))))))))))))))))))))))))
theorem wi_wsX50 : ∀ w ∈ wsX50, w ∈ wA := fun w h => (List.mem_append_right _ (List.mem_append_right _ (List.mem_append_right _ (List.mem_append_right _ (List.mem_append_right _ (List.mem_append_right _ (List.mem_append_right _ (List.mem_append_right _ (List.mem_append_right _ (List.mem_append_right _ (List.mem_append_right _ (List.mem_append_right _ (List.mem_append_right _ (List.mem_append_right _ (List.mem_append_right _ (List.mem_append_right _ (List.mem_append_right _ (List.mem_append_right _ (List.mem_append_right _ (List.mem_append_right _ (List.mem_append_right _ (List.mem_append_right _ (List.mem_append_right _ (List.mem_append_right _ (List.mem_append_right _ (List.mem_append_right _ (List.mem_append_right _ (List.mem_append_right _ (List.mem_append_right _ (List.mem_append_right _ (List.mem_append_right _ (List.mem_append_right _ (List.mem_append_right _ (List.mem_append_right _ (List.mem_append_right _ (List.mem_append_right _ (List.mem_append_right _ (List.mem_append_right _ (List.mem_append_right _ (List.mem_append_right _ (List.mem_append_right _ (List.mem_append_right _ (List.mem_append_right _ (List.mem_append_right _ (List.mem_append_right _ (List.mem_append_right _ (List.mem_append_right _ (List.mem_append_right _ (List.mem_append_left _ h)))))))))))))))))))))))))))))))))))))))))))))))))
theorem wi_wsX60 : ∀ w ∈ wsX60, w ∈ wA := fun w h => (List.mem_append_right _ (List.mem_append_right _ (List.mem_append_right _ (List.mem_append_right _ (List.mem_append_right _ (List.mem_append_right _ (List.mem_append_right _ (List.mem_append_right _ (List.mem_append_right _ (List.mem_append_right _ (List.mem_append_right _ (List.mem_append_right _ (List.mem_append_right _ (List.mem_append_right _ (List.mem_append_right _ (List.mem_append_right _ (List.mem_append_right _ (List.mem_append_right _ (List.mem_append_right _ (List.mem_append_right _ (List.mem_append_right _ (List.mem_append_right _ (List.mem_append_right _ (List.mem_append_right _ (List.mem_append_right _ (List.mem_append_right _ (List.mem_append_right _ (List.mem_append_right _ (List.mem_append_right _ (List.mem_append_right _ (List.mem_append_right _ (List.mem_append_right _ (List.mem_append_right _ (List.mem_append_right _ (List.mem_append_right _ (List.mem_append_right _ (List.mem_append_right _ (List.mem_append_right _ (List.mem_append_right _ (List.mem_append_right _ (List.mem_append_right _ (List.mem_append_right _ (List.mem_append_right _ (List.mem_append_right _ (List.mem_append_right _ (List.mem_append_right _ (List.mem_append_right _ (List.mem_append_right _ (List.mem_append_right _ (List.mem_append_left _ h))))))))))))))))))))))))))))))))))))))))))))))))))
theorem wi_wsX70 : ∀ w ∈ wsX70, w ∈ wA := fun w h => (List.mem_append_right _ (List.mem_append_right _ (List.mem_append_right _ (List.mem_append_right _ (List.mem_append_right _ (List.mem_append_right _ (List.mem_append_right _ (List.mem_append_right _ (List.mem_append_right _ (List.mem_append_right _ (List.mem_append_right _ (List.mem_append_right _ (List.mem_append_right _ (List.mem_append_right _ (List.mem_append_right _ (List.mem_append_right _ (List.mem_append_right _ (List.mem_append_right _ (List.mem_append_right _ (List.mem_append_right _ (List.mem_append_right _ (List.mem_append_right _ (List.mem_append_right _ (List.mem_append_right _ (List.mem_append_right _ (List.mem_append_right _ (List.mem_append_right _ (List.mem_append_right _ (List.mem_append_right _ (List.mem_append_right _ (List.mem_append_right _ (List.mem_append_right _ (List.mem_append_right _ (List.mem_append_right _ (List.mem_append_right _ (List.mem_append_right _ (List.mem_append_right _ (List.mem_append_right _ (List.mem_append_right _ (List.mem_append_right _ (List.mem_append_right _ (List.mem_append_right _ (List.mem_append_right _ (List.mem_append_right _ (List.mem_append_right _ (List.mem_append_right _ (List.mem_append_right _ (List.mem_append_right _ (List.mem_append_right _ (List.mem_append_right _ (List.mem_append_left _ h)))))))))))))))))))))))))))))))))))))))))))))))))))
theorem wi_wT_0 : ∀ w ∈ wT_0, w ∈ wA := fun w h => (List.mem_append_right _ (List.mem_append_right _ (List.mem_append_right _ (List.mem_append_right _ (List.mem_append_right _ (List.mem_append_right _ (List.mem_append_right _ (List.mem_append_right _ (List.mem_append_right _ (List.mem_append_right _ (List.mem_append_right _ (List.mem_append_right _ (List.mem_append_right _ (List.mem_append_right _ (List.mem_append_right _ (List.mem_append_right _ (List.mem_append_right _ (List.mem_append_right _ (List.mem_append_right _ (List.mem_append_right _ (List.mem_append_right _ (List.mem_append_right _ (List.mem_append_right _ (List.mem_append_right _ (List.mem_append_right _ (List.mem_append_right _ (List.mem_append_right _ (List.mem_append_right _ (List.mem_append_right _ (List.mem_append_right _ (List.mem_append_right _ (List.mem_append_right _ (List.mem_append_right _ (List.mem_append_right _ (List.mem_append_right _ (List.mem_append_right _ (List.mem_append_right _ (List.mem_append_right _ (List.mem_append_right _ (List.mem_append_right _ (List.mem_append_right _ (List.mem_append_right _ (List.mem_append_right _ (List.mem_append_right _ (List.mem_append_right _ (List.mem_append_right _ (List.mem_append_right _ (List.mem_append_right _ (List.mem_append_right _ (List.mem_append_right _ (List.mem_append_right _ (List.mem_append_left _ h))))))))))))))))))))))))))))))))))))))))))))))))))))
theorem wi_wT_1 : ∀ w ∈ wT_1, w ∈ wA := fun w h => (List.mem_append_right _ (List.mem_append_right _ (List.mem_append_right _ (List.mem_append_right _ (List.mem_append_right _ (List.mem_append_right _ (List.mem_append_right _ (List.mem_append_right _ (List.mem_append_right _ (List.mem_append_right _ (List.mem_append_right _ (List.mem_append_right _ (List.mem_append_right _ (List.mem_append_right _ (List.mem_append_right _ (List.mem_append_right _ (List.mem_append_right _ (List.mem_append_right _ (List.mem_append_right _ (List.mem_append_right _ (List.mem_append_right _ (List.mem_append_right _ (List.mem_append_right _ (List.mem_append_right _ (List.mem_append_right _ (List.mem_append_right _ (List.mem_append_right _ (List.mem_append_right _ (List.mem_append_right _ (List.mem_append_right _ (List.mem_append_right _ (List.mem_append_right _ (List.mem_append_right _ (List.mem_append_right _ (List.mem_append_right _ (List.mem_append_right _ (List.mem_append_right _ (List.mem_append_right _ (List.mem_append_right _ (List.mem_append_right _ (List.mem_append_right _ (List.mem_append_right _ (List.mem_append_right _ (List.mem_append_right _ (List.mem_append_right _ (List.mem_append_right _ (List.mem_append_right _ (List.mem_append_right _ (List.mem_append_right _ (List.mem_append_right _ (List.mem_append_right _ (List.mem_append_right _ (List.mem_append_left _ h)))))))))))))))))))))))))))))))))))))))))))))))))))))
theorem wi_wT_2 : ∀ w ∈ wT_2, w ∈ wA := fun w h => (List.mem_append_right _ (List.mem_append_right _ (List.mem_append_right _ (List.mem_append_right _ (List.mem_append_right _ (List.mem_append_right _ (List.mem_append_right _ (List.mem_append_right _ (List.mem_append_right _ (List.mem_append_right _ (List.mem_append_right _ (List.mem_append_right _ (List.mem_append_right _ (List.mem_append_right _ (List.mem_append_right _ (List.mem_append_right _ (List.mem_append_right _ (List.mem_append_right _ (List.mem_append_right _ (List.mem_append_right _ (List.mem_append_right _ (List.mem_append_right _ (List.mem_append_right _ (List.mem_append_right _ (List.mem_append_right _ (List.mem_append_right _ (List.mem_append_right _ (List.mem_append_right _ (List.mem_append_right _ (List.mem_append_right _ (List.mem_append_right _ (List.mem_append_right _ (List.mem_append_right _ (List.mem_append_right _ (List.mem_append_right _ (List.mem_append_right _ (List.mem_append_right _ (List.mem_append_right _ (List.mem_append_right _ (List.mem_append_right _ (List.mem_append_right _ (List.mem_append_right _ (List.mem_append_right _ (List.mem_append_right _ (List.mem_append_right _ (List.mem_append_right _ (List.mem_append_right _ (List.mem_append_right _ (List.mem_append_right _ (List.mem_append_right _ (List.mem_append_right _ (List.mem_append_right _ (List.mem_append_right _ h)))))))))))))))))))))))))))))))))))))))))))))))))))))
set_option maxRecDepth 20000 in
theorem wg_wA_0 : ∀ w ∈ wA_0, (w.onTables && w.keeps) = true ∨ ∃ ty, w = .arrayClass ty := fun w h => good_of_word (List.all_eq_true.mp (by decide +kernel : (wA_0).all goodWord = true) w h)
set_option maxRecDepth 20000 in
theorem wg_wA_1 : ∀ w ∈ wA_1, (w.onTables && w.keeps) = true ∨ ∃ ty, w = .arrayClass ty := fun w h => good_of_word (List.all_eq_true.mp (by decide +kernel : (wA_1).all goodWord = true) w h)
set_option maxRecDepth 20000 in
theorem wg_wA_2 : ∀ w ∈ wA_2, (w.onTables && w.keeps) = true ∨ ∃ ty, w = .arrayClass ty := fun w h => good_of_word (List.all_eq_true.mp (by decide +kernel : (wA_2).all goodWord = true) w h)
set_option maxRecDepth 20000 in
theorem wg_wA_3 : ∀ w ∈ wA_3, (w.onTables && w.keeps) = true ∨ ∃ ty, w = .arrayClass ty := fun w h => good_of_word (List.all_eq_true.mp (by decide +kernel : (wA_3).all goodWord = true) w h)
set_option maxRecDepth 20000 in
theorem wg_wA_4 : ∀ w ∈ wA_4, (w.onTables && w.keeps) = true ∨ ∃ ty, w = .arrayClass ty := fun w h => good_of_word (List.all_eq_true.mp (by decide +kernel : (wA_4).all goodWord = true) w h)
set_option maxRecDepth 20000 in
theorem wg_wA_5 : ∀ w ∈ wA_5, (w.onTables && w.keeps) = true ∨ ∃ ty, w = .arrayClass ty := fun w h => good_of_word (List.all_eq_true.mp (by decide +kernel : (wA_5).all goodWord = true) w h)
set_option maxRecDepth 20000 in
theorem wg_wA_6 : ∀ w ∈ wA_6, (w.onTables && w.keeps) = true ∨ ∃ ty, w = .arrayClass ty := fun w h => good_of_word (List.all_eq_true.mp (by decide +kernel : (wA_6).all goodWord = true) w h)
set_option maxRecDepth 20000 in
theorem wg_wA_7 : ∀ w ∈ wA_7, (w.onTables && w.keeps) = true ∨ ∃ ty, w = .arrayClass ty := fun w h => good_of_word (List.all_eq_true.mp (by decide +kernel : (wA_7).all goodWord = true) w h)
set_option maxRecDepth 20000 in
theorem wg_wA_8 : ∀ w ∈ wA_8, (w.onTables && w.keeps) = true ∨ ∃ ty, w = .arrayClass ty := fun w h => good_of_word (List.all_eq_true.mp (by decide +kernel : (wA_8).all goodWord = true) w h)
set_option maxRecDepth 20000 in
theorem wg_wA_9 : ∀ w ∈ wA_9, (w.onTables && w.keeps) = true ∨ ∃ ty, w = .arrayClass ty := fun w h => good_of_word (List.all_eq_true.mp (by decide +kernel : (wA_9).all goodWord = true) w h)
set_option maxRecDepth 20000 in
theorem wg_wA_10 : ∀ w ∈ wA_10, (w.onTables && w.keeps) = true ∨ ∃ ty, w = .arrayClass ty := fun w h => good_of_word (List.all_eq_true.mp (by decide +kernel : (wA_10).all goodWord = true) w h)
set_option maxRecDepth 20000 in
theorem wg_wA_11 : ∀ w ∈ wA_11, (w.onTables && w.keeps) = true ∨ ∃ ty, w = .arrayClass ty := fun w h => good_of_word (List.all_eq_true.mp (by decide +kernel : (wA_11).all goodWord = true) w h)
set_option maxRecDepth 20000 in
theorem wg_wA_12 : ∀ w ∈ wA_12, (w.onTables && w.keeps) = true ∨ ∃ ty, w = .arrayClass ty := fun w h => good_of_word (List.all_eq_true.mp (by decide +kernel : (wA_12).all goodWord = true) w h)
set_option maxRecDepth 20000 in
theorem wg_wA_13 : ∀ w ∈ wA_13, (w.onTables && w.keeps) = true ∨ ∃ ty, w = .arrayClass ty := fun w h => good_of_word (List.all_eq_true.mp (by decide +kernel : (wA_13).all goodWord = true) w h)
set_option maxRecDepth 20000 in
theorem wg_wA_14 : ∀ w ∈ wA_14, (w.onTables && w.keeps) = true ∨ ∃ ty, w = .arrayClass ty := fun w h => good_of_word (List.all_eq_true.mp (by decide +kernel : (wA_14).all goodWord = true) w h)
set_option maxRecDepth 20000 in
theorem wg_wA_15 : ∀ w ∈ wA_15, (w.onTables && w.keeps) = true ∨ ∃ ty, w = .arrayClass ty := fun w h => good_of_word (List.all_eq_true.mp (by decide +kernel : (wA_15).all goodWord = true) w h)
set_option maxRecDepth 20000 in
theorem wg_wA_16 : ∀ w ∈ wA_16, (w.onTables && w.keeps) = true ∨ ∃ ty, w = .arrayClass ty := fun w h => good_of_word (List.all_eq_true.mp (by decide +kernel : (wA_16).all goodWord = true) w h)
set_option maxRecDepth 20000 in
theorem wg_wA_17 : ∀ w ∈ wA_17, (w.onTables && w.keeps) = true ∨ ∃ ty, w = .arrayClass ty := fun w h => good_of_word (List.all_eq_true.mp (by decide +kernel : (wA_17).all goodWord = true) w h)
set_option maxRecDepth 20000 in
theorem wg_wA_18 : ∀ w ∈ wA_18, (w.onTables && w.keeps) = true ∨ ∃ ty, w = .arrayClass ty := fun w h => good_of_word (List.all_eq_true.mp (by decide +kernel : (wA_18).all goodWord = true) w h)
set_option maxRecDepth 20000 in
theorem wg_wA_19 : ∀ w ∈ wA_19, (w.onTables && w.keeps) = true ∨ ∃ ty, w = .arrayClass ty := fun w h => good_of_word (List.all_eq_true.mp (by decide +kernel : (wA_19).all goodWord = true) w h)
set_option maxRecDepth 20000 in
theorem wg_wA_20 : ∀ w ∈ wA_20, (w.onTables && w.keeps) = true ∨ ∃ ty, w = .arrayClass ty := fun w h => good_of_word (List.all_eq_true.mp (by decide +kernel : (wA_20).all goodWord = true) w h)
set_option maxRecDepth 20000 in
theorem wg_wA_21 : ∀ w ∈ wA_21, (w.onTables && w.keeps) = true ∨ ∃ ty, w = .arrayClass ty := fun w h => good_of_word (List.all_eq_true.mp (by decide +kernel : (wA_21).all goodWord = true) w h)
set_option maxRecDepth 20000 in
theorem wg_wA_22 : ∀ w ∈ wA_22, (w.onTables && w.keeps) = true ∨ ∃ ty, w = .arrayClass ty := fun w h => good_of_word (List.all_eq_true.mp (by decide +kernel : (wA_22).all goodWord = true) w h)
set_option maxRecDepth 20000 in
theorem wg_wA_23 : ∀ w ∈ wA_23, (w.onTables && w.keeps) = true ∨ ∃ ty, w = .arrayClass ty := fun w h => good_of_word (List.all_eq_true.mp (by decide +kernel : (wA_23).all goodWord = true) w h)
set_option maxRecDepth 20000 in
theorem wg_wA_24 : ∀ w ∈ wA_24, (w.onTables && w.keeps) = true ∨ ∃ ty, w = .arrayClass ty := fun w h => good_of_word (List.all_eq_true.mp (by decide +kernel : (wA_24).all goodWord = true) w h)
set_option maxRecDepth 20000 in
theorem wg_wA_25 : ∀ w ∈ wA_25, (w.onTables && w.keeps) = true ∨ ∃ ty, w = .arrayClass ty := fun w h => good_of_word (List.all_eq_true.mp (by decide +kernel : (wA_25).all goodWord = true) w h)
set_option maxRecDepth 20000 in
theorem wg_wA_26 : ∀ w ∈ wA_26, (w.onTables && w.keeps) = true ∨ ∃ ty, w = .arrayClass ty := fun w h => good_of_word (List.all_eq_true.mp (by decide +kernel : (wA_26).all goodWord = true) w h)
set_option maxRecDepth 20000 in
theorem wg_wA_27 : ∀ w ∈ wA_27, (w.onTables && w.keeps) = true ∨ ∃ ty, w = .arrayClass ty := fun w h => good_of_word (List.all_eq_true.mp (by decide +kernel : (wA_27).all goodWord = true) w h)
set_option maxRecDepth 20000 in
theorem wg_wA_28 : ∀ w ∈ wA_28, (w.onTables && w.keeps) = true ∨ ∃ ty, w = .arrayClass ty := fun w h => good_of_word (List.all_eq_true.mp (by decide +kernel : (wA_28).all goodWord = true) w h)
set_option maxRecDepth 20000 in
theorem wg_wA_29 : ∀ w ∈ wA_29, (w.onTables && w.keeps) = true ∨ ∃ ty, w = .arrayClass ty := fun w h => good_of_word (List.all_eq_true.mp (by decide +kernel : (wA_29).all goodWord = true) w h)
set_option maxRecDepth 20000 in
theorem wg_wA_30 : ∀ w ∈ wA_30, (w.onTables && w.keeps) = true ∨ ∃ ty, w = .arrayClass ty := fun w h => good_of_word (List.all_eq_true.mp (by decide +kernel : (wA_30).all goodWord = true) w h)
set_option maxRecDepth 20000 in
theorem wg_wA_31 : ∀ w ∈ wA_31, (w.onTables && w.keeps) = true ∨ ∃ ty, w = .arrayClass ty := fun w h => good_of_word (List.all_eq_true.mp (by decide +kernel : (wA_31).all goodWord = true) w h)
set_option maxRecDepth 20000 in
theorem wg_wA_32 : ∀ w ∈ wA_32, (w.onTables && w.keeps) = true ∨ ∃ ty, w = .arrayClass ty := fun w h => good_of_word (List.all_eq_true.mp (by decide +kernel : (wA_32).all goodWord = true) w h)
set_option maxRecDepth 20000 in
theorem wg_wA_33 : ∀ w ∈ wA_33, (w.onTables && w.keeps) = true ∨ ∃ ty, w = .arrayClass ty := fun w h => good_of_word (List.all_eq_true.mp (by decide +kernel : (wA_33).all goodWord = true) w h)
set_option maxRecDepth 20000 in
theorem wg_wA_34 : ∀ w ∈ wA_34, (w.onTables && w.keeps) = true ∨ ∃ ty, w = .arrayClass ty := fun w h => good_of_word (List.all_eq_true.mp (by decide +kernel : (wA_34).all goodWord = true) w h)
set_option maxRecDepth 20000 in
theorem wg_wA_35 : ∀ w ∈ wA_35, (w.onTables && w.keeps) = true ∨ ∃ ty, w = .arrayClass ty := fun w h => good_of_word (List.all_eq_true.mp (by decide +kernel : (wA_35).all goodWord = true) w h)
set_option maxRecDepth 20000 in
theorem wg_wA_36 : ∀ w ∈ wA_36, (w.onTables && w.keeps) = true ∨ ∃ ty, w = .arrayClass ty := fun w h => good_of_word (List.all_eq_true.mp (by decide +kernel : (wA_36).all goodWord = true) w h)
set_option maxRecDepth 20000 in
theorem wg_wA_37 : ∀ w ∈ wA_37, (w.onTables && w.keeps) = true ∨ ∃ ty, w = .arrayClass ty := fun w h => good_of_word (List.all_eq_true.mp (by decide +kernel : (wA_37).all goodWord = true) w h)
set_option maxRecDepth 20000 in
theorem wg_wA_38 : ∀ w ∈ wA_38, (w.onTables && w.keeps) = true ∨ ∃ ty, w = .arrayClass ty := fun w h => good_of_word (List.all_eq_true.mp (by decide +kernel : (wA_38).all goodWord = true) w h)
set_option maxRecDepth 20000 in
theorem wg_wA_39 : ∀ w ∈ wA_39, (w.onTables && w.keeps) = true ∨ ∃ ty, w = .arrayClass ty := fun w h => good_of_word (List.all_eq_true.mp (by decide +kernel : (wA_39).all goodWord = true) w h)
set_option maxRecDepth 20000 in
theorem wg_wA_40 : ∀ w ∈ wA_40, (w.onTables && w.keeps) = true ∨ ∃ ty, w = .arrayClass ty := fun w h => good_of_word (List.all_eq_true.mp (by decide +kernel : (wA_40).all goodWord = true) w h)
set_option maxRecDepth 20000 in
theorem wg_wA_41 : ∀ w ∈ wA_41, (w.onTables && w.keeps) = true ∨ ∃ ty, w = .arrayClass ty := fun w h => good_of_word (List.all_eq_true.mp (by decide +kernel : (wA_41).all goodWord = true) w h)
set_option maxRecDepth 20000 in
theorem wg_wA_42 : ∀ w ∈ wA_42, (w.onTables && w.keeps) = true ∨ ∃ ty, w = .arrayClass ty := fun w h => good_of_word (List.all_eq_true.mp (by decide +kernel : (wA_42).all goodWord = true) w h)
set_option maxRecDepth 20000 in
theorem wg_wA_43 : ∀ w ∈ wA_43, (w.onTables && w.keeps) = true ∨ ∃ ty, w = .arrayClass ty := fun w h => good_of_word (List.all_eq_true.mp (by decide +kernel : (wA_43).all goodWord = true) w h)
set_option maxRecDepth 20000 in
theorem wg_wsX00 : ∀ w ∈ wsX00, (w.onTables && w.keeps) = true ∨ ∃ ty, w = .arrayClass ty := fun w h => good_of_word (List.all_eq_true.mp (by decide +kernel : (wsX00).all goodWord = true) w h)
set_option maxRecDepth 20000 in
theorem wg_wsX10 : ∀ w ∈ wsX10, (w.onTables && w.keeps) = true ∨ ∃ ty, w = .arrayClass ty := fun w h => good_of_word (List.all_eq_true.mp (by decide +kernel : (wsX10).all goodWord = true) w h)
set_option maxRecDepth 20000 in
theorem wg_wsX30 : ∀ w ∈ wsX30, (w.onTables && w.keeps) = true ∨ ∃ ty, w = .arrayClass ty := fun w h => good_of_word (List.all_eq_true.mp (by decide +kernel : (wsX30).all goodWord = true) w h)
set_option maxRecDepth 20000 in
theorem wg_wsX40 : ∀ w ∈ wsX40, (w.onTables && w.keeps) = true ∨ ∃ ty, w = .arrayClass ty := fun w h => good_of_word (List.all_eq_true.mp (by decide +kernel : (wsX40).all goodWord = true) w h)
set_option maxRecDepth 20000 in
theorem wg_wsX50 : ∀ w ∈ wsX50, (w.onTables && w.keeps) = true ∨ ∃ ty, w = .arrayClass ty := fun w h => good_of_word (List.all_eq_true.mp (by decide +kernel : (wsX50).all goodWord = true) w h)
set_option maxRecDepth 20000 in
theorem wg_wsX60 : ∀ w ∈ wsX60, (w.onTables && w.keeps) = true ∨ ∃ ty, w = .arrayClass ty := fun w h => good_of_word (List.all_eq_true.mp (by decide +kernel : (wsX60).all goodWord = true) w h)
set_option maxRecDepth 20000 in
theorem wg_wsX70 : ∀ w ∈ wsX70, (w.onTables && w.keeps) = true ∨ ∃ ty, w = .arrayClass ty := fun w h => good_of_word (List.all_eq_true.mp (by decide +kernel : (wsX70).all goodWord = true) w h)
theorem wg_wT_0 : ∀ w ∈ wT_0, (w.onTables && w.keeps) = true ∨ ∃ ty, w = .arrayClass ty := fun w h => good_of_word (List.mem_filter.mp h).2
theorem wg_wT_1 : ∀ w ∈ wT_1, (w.onTables && w.keeps) = true ∨ ∃ ty, w = .arrayClass ty := fun w h => good_of_word (List.mem_filter.mp h).2
theorem wg_wT_2 : ∀ w ∈ wT_2, (w.onTables && w.keeps) = true ∨ ∃ ty, w = .arrayClass ty := fun w h => good_of_word (List.mem_filter.mp h).2
theorem wA_good : ∀ w ∈ wA, (w.onTables && w.keeps) = true ∨ ∃ ty, w = .arrayClass ty := fun w => fun h => (List.mem_append.mp h).elim (wg_wA_0 w) (fun h => (List.mem_append.mp h).elim (wg_wA_1 w) (fun h => (List.mem_append.mp h).elim (wg_wA_2 w) (fun h => (List.mem_append.mp h).elim (wg_wA_3 w) (fun h => (List.mem_append.mp h).elim (wg_wA_4 w) (fun h => (List.mem_append.mp h).elim (wg_wA_5 w) (fun h => (List.mem_append.mp h).elim (wg_wA_6 w) (fun h => (List.mem_append.mp h).elim (wg_wA_7 w) (fun h => (List.mem_append.mp h).elim (wg_wA_8 w) (fun h => (List.mem_append.mp h).elim (wg_wA_9 w) (fun h => (List.mem_append.mp h).elim (wg_wA_10 w) (fun h => (List.mem_append.mp h).elim (wg_wA_11 w) (fun h => (List.mem_append.mp h).elim (wg_wA_12 w) (fun h => (List.mem_append.mp h).elim (wg_wA_13 w) (fun h => (List.mem_append.mp h).elim (wg_wA_14 w) (fun h => (List.mem_append.mp h).elim (wg_wA_15 w) (fun h => (List.mem_append.mp h).elim (wg_wA_16 w) (fun h => (List.mem_append.mp h).elim (wg_wA_17 w) (fun h => (List.mem_append.mp h).elim (wg_wA_18 w) (fun h => (List.mem_append.mp h).elim (wg_wA_19 w) (fun h => (List.mem_append.mp h).elim (wg_wA_20 w) (fun h => (List.mem_append.mp h).elim (wg_wA_21 w) (fun h => (List.mem_append.mp h).elim (wg_wA_22 w) (fun h => (List.mem_append.mp h).elim (wg_wA_23 w) (fun h => (List.mem_append.mp h).elim (wg_wA_24 w) (fun h => (List.mem_append.mp h).elim (wg_wA_25 w) (fun h => (List.mem_append.mp h).elim (wg_wA_26 w) (fun h => (List.mem_append.mp h).elim (wg_wA_27 w) (fun h => (List.mem_append.mp h).elim (wg_wA_28 w) (fun h => (List.mem_append.mp h).elim (wg_wA_29 w) (fun h => (List.mem_append.mp h).elim (wg_wA_30 w) (fun h => (List.mem_append.mp h).elim (wg_wA_31 w) (fun h => (List.mem_append.mp h).elim (wg_wA_32 w) (fun h => (List.mem_append.mp h).elim (wg_wA_33 w) (fun h => (List.mem_append.mp h).elim (wg_wA_34 w) (fun h => (List.mem_append.mp h).elim (wg_wA_35 w) (fun h => (List.mem_append.mp h).elim (wg_wA_36 w) (fun h => (List.mem_append.mp h).elim (wg_wA_37 w) (fun h => (List.mem_append.mp h).elim (wg_wA_38 w) (fun h => (List.mem_append.mp h).elim (wg_wA_39 w) (fun h => (List.mem_append.mp h).elim (wg_wA_40 w) (fun h => (List.mem_append.mp h).elim (wg_wA_41 w) (fun h => (List.mem_append.mp h).elim (wg_wA_42 w) (fun h => (List.mem_append.mp h).elim (wg_wA_43 w) (fun h => (List.mem_append.mp h).elim (wg_wsX00 w) (fun h => (List.mem_append.mp h).elim (wg_wsX10 w) (fun h => (List.mem_append.mp h).elim (wg_wsX30 w) (fun h => (List.mem_append.mp h).elim (wg_wsX40 w) (fun h => (List.mem_append.mp h).elim (wg_wsX50 w) (fun h => (List.mem_append.mp h).elim (wg_wsX60 w) (fun h => (List.mem_append.mp h).elim (wg_wsX70 w) (fun h => (List.mem_append.mp h).elim (wg_wT_0 w) (fun h => (List.mem_append.mp h).elim (wg_wT_1 w) (wg_wT_2 w)))))))))))))))))))))))))))))))))))))))))))))))))))))
theorem wm_0 : Cond.code yX0_init cX0_init 1 none ∈ wA := wi_wA_0 _ (List.mem_of_getElem? (i := 0) rfl)
theorem wm_1 : Cond.methodLink RX0 3 objectInit ∈ wA := wi_wA_0 _ (List.mem_of_getElem? (i := 1) rfl)
theorem wm_2 : Cond.instanceMethod objectInit ∈ wA := wi_wA_0 _ (List.mem_of_getElem? (i := 2) rfl)
theorem wm_3 : Cond.code objectInit ⟨#[0xb1]⟩ 1 none ∈ wA := wi_wA_0 _ (List.mem_of_getElem? (i := 3) rfl)
theorem wm_4 : Cond.arrayClass .int ∈ wA := wi_wA_0 _ (List.mem_of_getElem? (i := 4) rfl)
theorem wm_5 : Cond.fieldLink RX0 9 "RingCircuits$Circuit" "gates" "[I" ∈ wA := wi_wA_0 _ (List.mem_of_getElem? (i := 5) rfl)
theorem wm_6 : Cond.fieldLink RX0 15 "RingCircuits$Circuit" "count" "I" ∈ wA := wi_wA_0 _ (List.mem_of_getElem? (i := 6) rfl)
theorem wm_7 : Cond.code yX0_count cX0_count 1 (some .int) ∈ wA := wi_wA_0 _ (List.mem_of_getElem? (i := 7) rfl)
theorem wm_8 : Cond.code yX0_at cX0_at 2 (some .int) ∈ wA := wi_wA_0 _ (List.mem_of_getElem? (i := 8) rfl)
theorem wm_9 : Cond.code yX0_removeAll cX0_removeAll 1 none ∈ wA := wi_wA_0 _ (List.mem_of_getElem? (i := 9) rfl)
theorem wm_10 : Cond.code yX0_add cX0_add 2 none ∈ wA := wi_wA_0 _ (List.mem_of_getElem? (i := 10) rfl)
theorem wm_11 : Cond.code yX0_addAll cX0_addAll 4 none ∈ wA := wi_wA_0 _ (List.mem_of_getElem? (i := 11) rfl)
theorem wm_12 : Cond.methodLink RX0 19 yX0_at ∈ wA := wi_wA_0 _ (List.mem_of_getElem? (i := 12) rfl)
theorem wm_13 : Cond.instanceMethod yX0_at ∈ wA := wi_wA_0 _ (List.mem_of_getElem? (i := 13) rfl)
theorem wm_14 : Cond.selects RX0 yX0_at yX0_at ∈ wA := wi_wA_0 _ (List.mem_of_getElem? (i := 14) rfl)
theorem wm_15 : Cond.initialized RX0 ∈ wA := wi_wA_0 _ (List.mem_of_getElem? (i := 15) rfl)
theorem wm_16 : Cond.methodLink RX0 23 yX0_add ∈ wA := wi_wA_0 _ (List.mem_of_getElem? (i := 16) rfl)
theorem wm_17 : Cond.instanceMethod yX0_add ∈ wA := wi_wA_0 _ (List.mem_of_getElem? (i := 17) rfl)
theorem wm_18 : Cond.selects RX0 yX0_add yX0_add ∈ wA := wi_wA_0 _ (List.mem_of_getElem? (i := 18) rfl)
theorem wm_19 : Cond.code yX0_become cX0_become 2 none ∈ wA := wi_wA_0 _ (List.mem_of_getElem? (i := 19) rfl)
theorem wm_20 : Cond.methodLink RX0 27 yX0_removeAll ∈ wA := wi_wA_0 _ (List.mem_of_getElem? (i := 20) rfl)
theorem wm_21 : Cond.instanceMethod yX0_removeAll ∈ wA := wi_wA_0 _ (List.mem_of_getElem? (i := 21) rfl)
theorem wm_22 : Cond.selects RX0 yX0_removeAll yX0_removeAll ∈ wA := wi_wA_0 _ (List.mem_of_getElem? (i := 22) rfl)
theorem wm_23 : Cond.methodLink RX0 30 yX0_addAll ∈ wA := wi_wA_0 _ (List.mem_of_getElem? (i := 23) rfl)
theorem wm_24 : Cond.instanceMethod yX0_addAll ∈ wA := wi_wA_0 _ (List.mem_of_getElem? (i := 24) rfl)
theorem wm_25 : Cond.selects RX0 yX0_addAll yX0_addAll ∈ wA := wi_wA_1 _ (List.mem_of_getElem? (i := 0) rfl)
theorem wm_26 : Cond.code yX2_kind cX2_kind 1 (some .int) ∈ wA := wi_wA_1 _ (List.mem_of_getElem? (i := 1) rfl)
theorem wm_27 : Cond.code yX0_countKind cX0_countKind 4 (some .int) ∈ wA := wi_wA_1 _ (List.mem_of_getElem? (i := 2) rfl)
theorem wm_28 : Cond.methodLink RX0 34 yX2_kind ∈ wA := wi_wA_1 _ (List.mem_of_getElem? (i := 3) rfl)
theorem wm_29 : Cond.static yX2_kind ∈ wA := wi_wA_1 _ (List.mem_of_getElem? (i := 4) rfl)
theorem wm_30 : Cond.initialized RX2 ∈ wA := wi_wA_1 _ (List.mem_of_getElem? (i := 5) rfl)
theorem wm_31 : Cond.code yX2_a cX2_a 1 (some .int) ∈ wA := wi_wA_1 _ (List.mem_of_getElem? (i := 6) rfl)
theorem wm_32 : Cond.code yX0_isOnOneWire cX0_isOnOneWire 2 (some .boolean) ∈ wA := wi_wA_1 _ (List.mem_of_getElem? (i := 7) rfl)
theorem wm_33 : Cond.methodLink RX0 39 yX2_a ∈ wA := wi_wA_1 _ (List.mem_of_getElem? (i := 8) rfl)
theorem wm_34 : Cond.static yX2_a ∈ wA := wi_wA_1 _ (List.mem_of_getElem? (i := 9) rfl)
theorem wm_35 : Cond.code yX0_countInverted cX0_countInverted 1 (some .int) ∈ wA := wi_wA_1 _ (List.mem_of_getElem? (i := 10) rfl)
theorem wm_36 : Cond.methodLink RX0 42 yX0_countKind ∈ wA := wi_wA_1 _ (List.mem_of_getElem? (i := 11) rfl)
theorem wm_37 : Cond.instanceMethod yX0_countKind ∈ wA := wi_wA_1 _ (List.mem_of_getElem? (i := 12) rfl)
theorem wm_38 : Cond.selects RX0 yX0_countKind yX0_countKind ∈ wA := wi_wA_1 _ (List.mem_of_getElem? (i := 13) rfl)
theorem wm_39 : Cond.code yX2_wiresOf cX2_wiresOf 1 (some .int) ∈ wA := wi_wA_1 _ (List.mem_of_getElem? (i := 14) rfl)
theorem wm_40 : Cond.code yX2_of cX2_of 5 (some .int) ∈ wA := wi_wA_1 _ (List.mem_of_getElem? (i := 15) rfl)
theorem wm_41 : Cond.methodLink RX2 11 yX2_wiresOf ∈ wA := wi_wA_1 _ (List.mem_of_getElem? (i := 16) rfl)
theorem wm_42 : Cond.static yX2_wiresOf ∈ wA := wi_wA_1 _ (List.mem_of_getElem? (i := 17) rfl)
theorem wm_43 : Cond.code yX0_addOn cX0_addOn 3 none ∈ wA := wi_wA_1 _ (List.mem_of_getElem? (i := 18) rfl)
theorem wm_44 : Cond.methodLink RX0 65 yX2_of ∈ wA := wi_wA_1 _ (List.mem_of_getElem? (i := 19) rfl)
theorem wm_45 : Cond.static yX2_of ∈ wA := wi_wA_1 _ (List.mem_of_getElem? (i := 20) rfl)
theorem wm_46 : Cond.code yX0_addBackTurn cX0_addBackTurn 2 none ∈ wA := wi_wA_1 _ (List.mem_of_getElem? (i := 21) rfl)
theorem wm_47 : Cond.methodLink RX0 48 yX0_addOn ∈ wA := wi_wA_1 _ (List.mem_of_getElem? (i := 22) rfl)
theorem wm_48 : Cond.instanceMethod yX0_addOn ∈ wA := wi_wA_1 _ (List.mem_of_getElem? (i := 23) rfl)
theorem wm_49 : Cond.selects RX0 yX0_addOn yX0_addOn ∈ wA := wi_wA_1 _ (List.mem_of_getElem? (i := 24) rfl)
theorem wm_50 : Cond.methodLink RX0 45 yX0_addBackTurn ∈ wA := wi_wA_2 _ (List.mem_of_getElem? (i := 0) rfl)
theorem wm_51 : Cond.instanceMethod yX0_addBackTurn ∈ wA := wi_wA_2 _ (List.mem_of_getElem? (i := 1) rfl)
theorem wm_52 : Cond.selects RX0 yX0_addBackTurn yX0_addBackTurn ∈ wA := wi_wA_2 _ (List.mem_of_getElem? (i := 2) rfl)
theorem wm_53 : Cond.code yX0_addInverted cX0_addInverted 5 none ∈ wA := wi_wA_2 _ (List.mem_of_getElem? (i := 3) rfl)
theorem wm_54 : Cond.code yX0_countExpanded cX0_countExpanded 1 (some .int) ∈ wA := wi_wA_2 _ (List.mem_of_getElem? (i := 4) rfl)
theorem wm_55 : Cond.code yX2_b cX2_b 1 (some .int) ∈ wA := wi_wA_2 _ (List.mem_of_getElem? (i := 5) rfl)
theorem wm_56 : Cond.code yX2_c cX2_c 1 (some .int) ∈ wA := wi_wA_2 _ (List.mem_of_getElem? (i := 6) rfl)
theorem wm_57 : Cond.code yX0_addControlled cX0_addControlled 3 none ∈ wA := wi_wA_2 _ (List.mem_of_getElem? (i := 7) rfl)
theorem wm_58 : Cond.methodLink RX0 62 yX0_addControlled ∈ wA := wi_wA_2 _ (List.mem_of_getElem? (i := 8) rfl)
theorem wm_59 : Cond.instanceMethod yX0_addControlled ∈ wA := wi_wA_2 _ (List.mem_of_getElem? (i := 9) rfl)
theorem wm_60 : Cond.selects RX0 yX0_addControlled yX0_addControlled ∈ wA := wi_wA_2 _ (List.mem_of_getElem? (i := 10) rfl)
theorem wm_61 : Cond.code yX0_addParts cX0_addParts 4 none ∈ wA := wi_wA_2 _ (List.mem_of_getElem? (i := 11) rfl)
theorem wm_62 : Cond.methodLink RX0 52 yX2_b ∈ wA := wi_wA_2 _ (List.mem_of_getElem? (i := 12) rfl)
theorem wm_63 : Cond.static yX2_b ∈ wA := wi_wA_2 _ (List.mem_of_getElem? (i := 13) rfl)
theorem wm_64 : Cond.methodLink RX0 55 yX2_c ∈ wA := wi_wA_2 _ (List.mem_of_getElem? (i := 14) rfl)
theorem wm_65 : Cond.static yX2_c ∈ wA := wi_wA_2 _ (List.mem_of_getElem? (i := 15) rfl)
theorem wm_66 : Cond.methodLink RX0 58 yX0_addParts ∈ wA := wi_wA_2 _ (List.mem_of_getElem? (i := 16) rfl)
theorem wm_67 : Cond.instanceMethod yX0_addParts ∈ wA := wi_wA_2 _ (List.mem_of_getElem? (i := 17) rfl)
theorem wm_68 : Cond.selects RX0 yX0_addParts yX0_addParts ∈ wA := wi_wA_2 _ (List.mem_of_getElem? (i := 18) rfl)
theorem wm_69 : Cond.code yX0_addExpanded cX0_addExpanded 4 none ∈ wA := wi_wA_2 _ (List.mem_of_getElem? (i := 19) rfl)
theorem wm_70 : Cond.code yX2_wireBits cX2_wireBits 2 (some .int) ∈ wA := wi_wA_2 _ (List.mem_of_getElem? (i := 20) rfl)
theorem wm_71 : Cond.methodLink RX2 15 yX2_kind ∈ wA := wi_wA_2 _ (List.mem_of_getElem? (i := 21) rfl)
theorem wm_72 : Cond.methodLink RX2 18 yX2_a ∈ wA := wi_wA_2 _ (List.mem_of_getElem? (i := 22) rfl)
theorem wm_73 : Cond.methodLink RX2 21 yX2_b ∈ wA := wi_wA_2 _ (List.mem_of_getElem? (i := 23) rfl)
theorem wm_74 : Cond.methodLink RX2 24 yX2_c ∈ wA := wi_wA_2 _ (List.mem_of_getElem? (i := 24) rfl)
theorem wm_75 : Cond.code yX2_meet cX2_meet 3 (some .boolean) ∈ wA := wi_wA_3 _ (List.mem_of_getElem? (i := 0) rfl)
theorem wm_76 : Cond.methodLink RX2 27 yX2_wireBits ∈ wA := wi_wA_3 _ (List.mem_of_getElem? (i := 1) rfl)
theorem wm_77 : Cond.static yX2_wireBits ∈ wA := wi_wA_3 _ (List.mem_of_getElem? (i := 2) rfl)
theorem wm_78 : Cond.code yX2_turns cX2_turns 2 (some .int) ∈ wA := wi_wA_3 _ (List.mem_of_getElem? (i := 3) rfl)
theorem wm_79 : Cond.code yX2_onlyTurns cX2_onlyTurns 1 (some .boolean) ∈ wA := wi_wA_3 _ (List.mem_of_getElem? (i := 4) rfl)
theorem wm_80 : Cond.methodLink RX2 42 yX2_turns ∈ wA := wi_wA_3 _ (List.mem_of_getElem? (i := 5) rfl)
theorem wm_81 : Cond.static yX2_turns ∈ wA := wi_wA_3 _ (List.mem_of_getElem? (i := 6) rfl)
theorem wm_82 : Cond.code yX2_controlBits cX2_controlBits 2 (some .int) ∈ wA := wi_wA_3 _ (List.mem_of_getElem? (i := 7) rfl)
theorem wm_83 : Cond.code yX2_targetBit cX2_targetBit 2 (some .int) ∈ wA := wi_wA_3 _ (List.mem_of_getElem? (i := 8) rfl)
theorem wm_84 : Cond.methodLink RX2 45 yX2_controlBits ∈ wA := wi_wA_3 _ (List.mem_of_getElem? (i := 9) rfl)
theorem wm_85 : Cond.static yX2_controlBits ∈ wA := wi_wA_3 _ (List.mem_of_getElem? (i := 10) rfl)
theorem wm_86 : Cond.methodLink RX2 48 yX2_targetBit ∈ wA := wi_wA_3 _ (List.mem_of_getElem? (i := 11) rfl)
theorem wm_87 : Cond.static yX2_targetBit ∈ wA := wi_wA_3 _ (List.mem_of_getElem? (i := 12) rfl)
theorem wm_88 : Cond.code yX2_slipsBy cX2_slipsBy 3 (some .boolean) ∈ wA := wi_wA_3 _ (List.mem_of_getElem? (i := 13) rfl)
theorem wm_89 : Cond.methodLink RX2 34 yX2_onlyTurns ∈ wA := wi_wA_3 _ (List.mem_of_getElem? (i := 14) rfl)
theorem wm_90 : Cond.static yX2_onlyTurns ∈ wA := wi_wA_3 _ (List.mem_of_getElem? (i := 15) rfl)
theorem wm_91 : Cond.methodLink RX2 38 yX2_slipsBy ∈ wA := wi_wA_3 _ (List.mem_of_getElem? (i := 16) rfl)
theorem wm_92 : Cond.static yX2_slipsBy ∈ wA := wi_wA_3 _ (List.mem_of_getElem? (i := 17) rfl)
theorem wm_93 : Cond.code yX2_pass cX2_pass 2 (some .boolean) ∈ wA := wi_wA_3 _ (List.mem_of_getElem? (i := 18) rfl)
theorem wm_94 : Cond.methodLink RX0 79 yX2_meet ∈ wA := wi_wA_3 _ (List.mem_of_getElem? (i := 19) rfl)
theorem wm_95 : Cond.static yX2_meet ∈ wA := wi_wA_3 _ (List.mem_of_getElem? (i := 20) rfl)
theorem wm_96 : Cond.methodLink RX0 83 yX2_pass ∈ wA := wi_wA_3 _ (List.mem_of_getElem? (i := 21) rfl)
theorem wm_97 : Cond.static yX2_pass ∈ wA := wi_wA_3 _ (List.mem_of_getElem? (i := 22) rfl)
theorem wm_98 : Cond.code yX0_partnerOf cX0_partnerOf 3 (some .int) ∈ wA := wi_wA_3 _ (List.mem_of_getElem? (i := 23) rfl)
theorem wm_99 : Cond.code yX2_united cX2_united 2 (some .int) ∈ wA := wi_wA_3 _ (List.mem_of_getElem? (i := 24) rfl)
theorem wm_100 : Cond.methodLink RX2 30 yX2_of ∈ wA := wi_wA_4 _ (List.mem_of_getElem? (i := 0) rfl)
theorem wm_101 : Cond.code yX0_removeAt cX0_removeAt 3 none ∈ wA := wi_wA_4 _ (List.mem_of_getElem? (i := 1) rfl)
theorem wm_102 : Cond.code yX0_unite cX0_unite 4 none ∈ wA := wi_wA_4 _ (List.mem_of_getElem? (i := 2) rfl)
theorem wm_103 : Cond.methodLink RX0 86 yX2_united ∈ wA := wi_wA_4 _ (List.mem_of_getElem? (i := 3) rfl)
theorem wm_104 : Cond.static yX2_united ∈ wA := wi_wA_4 _ (List.mem_of_getElem? (i := 4) rfl)
theorem wm_105 : Cond.methodLink RX0 89 yX0_removeAt ∈ wA := wi_wA_4 _ (List.mem_of_getElem? (i := 5) rfl)
theorem wm_106 : Cond.instanceMethod yX0_removeAt ∈ wA := wi_wA_4 _ (List.mem_of_getElem? (i := 6) rfl)
theorem wm_107 : Cond.selects RX0 yX0_removeAt yX0_removeAt ∈ wA := wi_wA_4 _ (List.mem_of_getElem? (i := 7) rfl)
theorem wm_108 : Cond.methodLink RX0 73 yX0_partnerOf ∈ wA := wi_wA_4 _ (List.mem_of_getElem? (i := 8) rfl)
theorem wm_109 : Cond.instanceMethod yX0_partnerOf ∈ wA := wi_wA_4 _ (List.mem_of_getElem? (i := 9) rfl)
theorem wm_110 : Cond.selects RX0 yX0_partnerOf yX0_partnerOf ∈ wA := wi_wA_4 _ (List.mem_of_getElem? (i := 10) rfl)
theorem wm_111 : Cond.methodLink RX0 76 yX0_unite ∈ wA := wi_wA_4 _ (List.mem_of_getElem? (i := 11) rfl)
theorem wm_112 : Cond.instanceMethod yX0_unite ∈ wA := wi_wA_4 _ (List.mem_of_getElem? (i := 12) rfl)
theorem wm_113 : Cond.selects RX0 yX0_unite yX0_unite ∈ wA := wi_wA_4 _ (List.mem_of_getElem? (i := 13) rfl)
theorem wm_114 : Cond.code yX0_rewriteOne cX0_rewriteOne 3 (some .boolean) ∈ wA := wi_wA_4 _ (List.mem_of_getElem? (i := 14) rfl)
theorem wm_115 : Cond.methodLink RX0 69 yX0_rewriteOne ∈ wA := wi_wA_4 _ (List.mem_of_getElem? (i := 15) rfl)
theorem wm_116 : Cond.instanceMethod yX0_rewriteOne ∈ wA := wi_wA_4 _ (List.mem_of_getElem? (i := 16) rfl)
theorem wm_117 : Cond.selects RX0 yX0_rewriteOne yX0_rewriteOne ∈ wA := wi_wA_4 _ (List.mem_of_getElem? (i := 17) rfl)
theorem wm_118 : Cond.code yX0_rewriteAll cX0_rewriteAll 3 none ∈ wA := wi_wA_4 _ (List.mem_of_getElem? (i := 18) rfl)
theorem wm_119 : Cond.code yX1_init cX1_init 1 none ∈ wA := wi_wA_4 _ (List.mem_of_getElem? (i := 19) rfl)
theorem wm_120 : Cond.methodLink RX1 3 objectInit ∈ wA := wi_wA_4 _ (List.mem_of_getElem? (i := 20) rfl)
theorem wm_121 : Cond.arrayClass .long ∈ wA := wi_wA_4 _ (List.mem_of_getElem? (i := 21) rfl)
theorem wm_122 : Cond.fieldLink RX1 11 "RingCircuits$Column" "parts" "[J" ∈ wA := wi_wA_4 _ (List.mem_of_getElem? (i := 22) rfl)
theorem wm_123 : Cond.fieldLink RX1 15 "RingCircuits$Column" "states" "I" ∈ wA := wi_wA_4 _ (List.mem_of_getElem? (i := 23) rfl)
theorem wm_124 : Cond.fieldLink RX1 19 "RingCircuits$Column" "exponent" "I" ∈ wA := wi_wA_4 _ (List.mem_of_getElem? (i := 24) rfl)
theorem wm_125 : Cond.code yX1_exponent cX1_exponent 1 (some .int) ∈ wA := wi_wA_5 _ (List.mem_of_getElem? (i := 0) rfl)
theorem wm_126 : Cond.code yX1_part cX1_part 4 (some .long) ∈ wA := wi_wA_5 _ (List.mem_of_getElem? (i := 1) rfl)
theorem wm_127 : Cond.code yJ7_fill_d0a16 cJ7_fill_d0a16 5 none ∈ wA := wi_wA_5 _ (List.mem_of_getElem? (i := 2) rfl)
theorem wm_128 : Cond.code yX1_timesRoot cX1_timesRoot 10 none ∈ wA := wi_wA_5 _ (List.mem_of_getElem? (i := 3) rfl)
theorem wm_129 : Cond.code yX1_raise cX1_raise 2 none ∈ wA := wi_wA_5 _ (List.mem_of_getElem? (i := 4) rfl)
theorem wm_130 : Cond.methodLink RX1 97 yX1_timesRoot ∈ wA := wi_wA_5 _ (List.mem_of_getElem? (i := 5) rfl)
theorem wm_131 : Cond.instanceMethod yX1_timesRoot ∈ wA := wi_wA_5 _ (List.mem_of_getElem? (i := 6) rfl)
theorem wm_132 : Cond.selects RX1 yX1_timesRoot yX1_timesRoot ∈ wA := wi_wA_5 _ (List.mem_of_getElem? (i := 7) rfl)
theorem wm_133 : Cond.initialized RX1 ∈ wA := wi_wA_5 _ (List.mem_of_getElem? (i := 8) rfl)
theorem wm_134 : Cond.code yX1_mixPair cX1_mixPair 6 none ∈ wA := wi_wA_5 _ (List.mem_of_getElem? (i := 9) rfl)
theorem wm_135 : Cond.code yX1_mix cX1_mix 3 none ∈ wA := wi_wA_5 _ (List.mem_of_getElem? (i := 10) rfl)
theorem wm_136 : Cond.methodLink RX1 88 yX1_mixPair ∈ wA := wi_wA_5 _ (List.mem_of_getElem? (i := 11) rfl)
theorem wm_137 : Cond.instanceMethod yX1_mixPair ∈ wA := wi_wA_5 _ (List.mem_of_getElem? (i := 12) rfl)
theorem wm_138 : Cond.selects RX1 yX1_mixPair yX1_mixPair ∈ wA := wi_wA_5 _ (List.mem_of_getElem? (i := 13) rfl)
theorem wm_139 : Cond.code yX1_exchange cX1_exchange 6 none ∈ wA := wi_wA_5 _ (List.mem_of_getElem? (i := 14) rfl)
theorem wm_140 : Cond.code yX1_trade cX1_trade 4 none ∈ wA := wi_wA_5 _ (List.mem_of_getElem? (i := 15) rfl)
theorem wm_141 : Cond.methodLink RX1 91 yX1_exchange ∈ wA := wi_wA_5 _ (List.mem_of_getElem? (i := 16) rfl)
theorem wm_142 : Cond.instanceMethod yX1_exchange ∈ wA := wi_wA_5 _ (List.mem_of_getElem? (i := 17) rfl)
theorem wm_143 : Cond.selects RX1 yX1_exchange yX1_exchange ∈ wA := wi_wA_5 _ (List.mem_of_getElem? (i := 18) rfl)
theorem wm_144 : Cond.code yX2_flips cX2_flips 2 (some .boolean) ∈ wA := wi_wA_5 _ (List.mem_of_getElem? (i := 19) rfl)
theorem wm_145 : Cond.code yX1_flip cX1_flip 4 none ∈ wA := wi_wA_5 _ (List.mem_of_getElem? (i := 20) rfl)
theorem wm_146 : Cond.code yX1_turnOne cX1_turnOne 6 none ∈ wA := wi_wA_5 _ (List.mem_of_getElem? (i := 21) rfl)
theorem wm_147 : Cond.code yX1_turn cX1_turn 4 none ∈ wA := wi_wA_5 _ (List.mem_of_getElem? (i := 22) rfl)
theorem wm_148 : Cond.methodLink RX1 94 yX1_turnOne ∈ wA := wi_wA_5 _ (List.mem_of_getElem? (i := 23) rfl)
theorem wm_149 : Cond.instanceMethod yX1_turnOne ∈ wA := wi_wA_5 _ (List.mem_of_getElem? (i := 24) rfl)
theorem wm_150 : Cond.selects RX1 yX1_turnOne yX1_turnOne ∈ wA := wi_wA_6 _ (List.mem_of_getElem? (i := 0) rfl)
theorem wm_151 : Cond.methodLink RX1 50 yX2_kind ∈ wA := wi_wA_6 _ (List.mem_of_getElem? (i := 1) rfl)
theorem wm_152 : Cond.methodLink RX1 53 yX2_a ∈ wA := wi_wA_6 _ (List.mem_of_getElem? (i := 2) rfl)
theorem wm_153 : Cond.methodLink RX1 56 yX1_mix ∈ wA := wi_wA_6 _ (List.mem_of_getElem? (i := 3) rfl)
theorem wm_154 : Cond.instanceMethod yX1_mix ∈ wA := wi_wA_6 _ (List.mem_of_getElem? (i := 4) rfl)
theorem wm_155 : Cond.selects RX1 yX1_mix yX1_mix ∈ wA := wi_wA_6 _ (List.mem_of_getElem? (i := 5) rfl)
theorem wm_156 : Cond.methodLink RX1 59 yX2_b ∈ wA := wi_wA_6 _ (List.mem_of_getElem? (i := 6) rfl)
theorem wm_157 : Cond.methodLink RX1 62 yX1_trade ∈ wA := wi_wA_6 _ (List.mem_of_getElem? (i := 7) rfl)
theorem wm_158 : Cond.instanceMethod yX1_trade ∈ wA := wi_wA_6 _ (List.mem_of_getElem? (i := 8) rfl)
theorem wm_159 : Cond.selects RX1 yX1_trade yX1_trade ∈ wA := wi_wA_6 _ (List.mem_of_getElem? (i := 9) rfl)
theorem wm_160 : Cond.methodLink RX1 66 yX2_flips ∈ wA := wi_wA_6 _ (List.mem_of_getElem? (i := 10) rfl)
theorem wm_161 : Cond.static yX2_flips ∈ wA := wi_wA_6 _ (List.mem_of_getElem? (i := 11) rfl)
theorem wm_162 : Cond.methodLink RX1 70 yX2_controlBits ∈ wA := wi_wA_6 _ (List.mem_of_getElem? (i := 12) rfl)
theorem wm_163 : Cond.methodLink RX1 73 yX2_targetBit ∈ wA := wi_wA_6 _ (List.mem_of_getElem? (i := 13) rfl)
theorem wm_164 : Cond.methodLink RX1 76 yX1_flip ∈ wA := wi_wA_6 _ (List.mem_of_getElem? (i := 14) rfl)
theorem wm_165 : Cond.instanceMethod yX1_flip ∈ wA := wi_wA_6 _ (List.mem_of_getElem? (i := 15) rfl)
theorem wm_166 : Cond.selects RX1 yX1_flip yX1_flip ∈ wA := wi_wA_6 _ (List.mem_of_getElem? (i := 16) rfl)
theorem wm_167 : Cond.methodLink RX1 79 yX2_wireBits ∈ wA := wi_wA_6 _ (List.mem_of_getElem? (i := 17) rfl)
theorem wm_168 : Cond.methodLink RX1 82 yX2_turns ∈ wA := wi_wA_6 _ (List.mem_of_getElem? (i := 18) rfl)
theorem wm_169 : Cond.methodLink RX1 85 yX1_turn ∈ wA := wi_wA_6 _ (List.mem_of_getElem? (i := 19) rfl)
theorem wm_170 : Cond.instanceMethod yX1_turn ∈ wA := wi_wA_6 _ (List.mem_of_getElem? (i := 20) rfl)
theorem wm_171 : Cond.selects RX1 yX1_turn yX1_turn ∈ wA := wi_wA_6 _ (List.mem_of_getElem? (i := 21) rfl)
theorem wm_172 : Cond.code yX1_apply cX1_apply 3 none ∈ wA := wi_wA_6 _ (List.mem_of_getElem? (i := 22) rfl)
theorem wm_173 : Cond.methodLink RX1 22 yJ7_fill_d0a16 ∈ wA := wi_wA_6 _ (List.mem_of_getElem? (i := 23) rfl)
theorem wm_174 : Cond.static yJ7_fill_d0a16 ∈ wA := wi_wA_6 _ (List.mem_of_getElem? (i := 24) rfl)
theorem wm_175 : Cond.initialized RJ7 ∈ wA := wi_wA_7 _ (List.mem_of_getElem? (i := 0) rfl)
theorem wm_176 : Cond.methodLink RX1 30 yX0_countKind ∈ wA := wi_wA_7 _ (List.mem_of_getElem? (i := 1) rfl)
theorem wm_177 : Cond.methodLink RX1 36 yX1_raise ∈ wA := wi_wA_7 _ (List.mem_of_getElem? (i := 2) rfl)
theorem wm_178 : Cond.instanceMethod yX1_raise ∈ wA := wi_wA_7 _ (List.mem_of_getElem? (i := 3) rfl)
theorem wm_179 : Cond.selects RX1 yX1_raise yX1_raise ∈ wA := wi_wA_7 _ (List.mem_of_getElem? (i := 4) rfl)
theorem wm_180 : Cond.methodLink RX1 39 yX0_count ∈ wA := wi_wA_7 _ (List.mem_of_getElem? (i := 5) rfl)
theorem wm_181 : Cond.instanceMethod yX0_count ∈ wA := wi_wA_7 _ (List.mem_of_getElem? (i := 6) rfl)
theorem wm_182 : Cond.selects RX0 yX0_count yX0_count ∈ wA := wi_wA_7 _ (List.mem_of_getElem? (i := 7) rfl)
theorem wm_183 : Cond.methodLink RX1 43 yX0_at ∈ wA := wi_wA_7 _ (List.mem_of_getElem? (i := 8) rfl)
theorem wm_184 : Cond.methodLink RX1 46 yX1_apply ∈ wA := wi_wA_7 _ (List.mem_of_getElem? (i := 9) rfl)
theorem wm_185 : Cond.instanceMethod yX1_apply ∈ wA := wi_wA_7 _ (List.mem_of_getElem? (i := 10) rfl)
theorem wm_186 : Cond.selects RX1 yX1_apply yX1_apply ∈ wA := wi_wA_7 _ (List.mem_of_getElem? (i := 11) rfl)
theorem wm_187 : Cond.code yX1_run cX1_run 6 none ∈ wA := wi_wA_7 _ (List.mem_of_getElem? (i := 12) rfl)
theorem wm_188 : Cond.code yX1_canBeDivided cX1_canBeDivided 5 (some .boolean) ∈ wA := wi_wA_7 _ (List.mem_of_getElem? (i := 13) rfl)
theorem wm_189 : Cond.code yX1_divide cX1_divide 4 none ∈ wA := wi_wA_7 _ (List.mem_of_getElem? (i := 14) rfl)
theorem wm_190 : Cond.code yX1_lower cX1_lower 1 none ∈ wA := wi_wA_7 _ (List.mem_of_getElem? (i := 15) rfl)
theorem wm_191 : Cond.methodLink RX1 100 yX1_canBeDivided ∈ wA := wi_wA_7 _ (List.mem_of_getElem? (i := 16) rfl)
theorem wm_192 : Cond.instanceMethod yX1_canBeDivided ∈ wA := wi_wA_7 _ (List.mem_of_getElem? (i := 17) rfl)
theorem wm_193 : Cond.selects RX1 yX1_canBeDivided yX1_canBeDivided ∈ wA := wi_wA_7 _ (List.mem_of_getElem? (i := 18) rfl)
theorem wm_194 : Cond.methodLink RX1 104 yX1_divide ∈ wA := wi_wA_7 _ (List.mem_of_getElem? (i := 19) rfl)
theorem wm_195 : Cond.instanceMethod yX1_divide ∈ wA := wi_wA_7 _ (List.mem_of_getElem? (i := 20) rfl)
theorem wm_196 : Cond.selects RX1 yX1_divide yX1_divide ∈ wA := wi_wA_7 _ (List.mem_of_getElem? (i := 21) rfl)
theorem wm_197 : Cond.code yX1_firstDifference cX1_firstDifference 4 (some .int) ∈ wA := wi_wA_7 _ (List.mem_of_getElem? (i := 22) rfl)
theorem wm_198 : Cond.methodLink RX1 107 yX1_part ∈ wA := wi_wA_7 _ (List.mem_of_getElem? (i := 23) rfl)
theorem wm_199 : Cond.instanceMethod yX1_part ∈ wA := wi_wA_7 _ (List.mem_of_getElem? (i := 24) rfl)
theorem wm_200 : Cond.selects RX1 yX1_part yX1_part ∈ wA := wi_wA_8 _ (List.mem_of_getElem? (i := 0) rfl)
theorem wm_201 : Cond.code yX1_isTurned cX1_isTurned 8 (some .boolean) ∈ wA := wi_wA_8 _ (List.mem_of_getElem? (i := 1) rfl)
theorem wm_202 : Cond.code yX1_weightWhole cX1_weightWhole 7 (some .long) ∈ wA := wi_wA_8 _ (List.mem_of_getElem? (i := 2) rfl)
theorem wm_203 : Cond.code yX1_weightRoot cX1_weightRoot 7 (some .long) ∈ wA := wi_wA_8 _ (List.mem_of_getElem? (i := 3) rfl)
theorem wm_204 : Cond.code yX1_hasAny cX1_hasAny 4 (some .boolean) ∈ wA := wi_wA_8 _ (List.mem_of_getElem? (i := 4) rfl)
theorem wm_205 : Cond.code yX1_keepOnly cX1_keepOnly 4 none ∈ wA := wi_wA_8 _ (List.mem_of_getElem? (i := 5) rfl)
theorem wm_206 : Cond.code yX2_canStand cX2_canStand 6 (some .boolean) ∈ wA := wi_wA_8 _ (List.mem_of_getElem? (i := 6) rfl)
theorem wm_207 : Cond.code yX3_init cX3_init 1 none ∈ wA := wi_wA_8 _ (List.mem_of_getElem? (i := 7) rfl)
theorem wm_208 : Cond.methodLink RX3 3 objectInit ∈ wA := wi_wA_8 _ (List.mem_of_getElem? (i := 8) rfl)
theorem wm_209 : Cond.fieldLink RX3 9 "RingCircuits$LeastForm" "heads" "[I" ∈ wA := wi_wA_8 _ (List.mem_of_getElem? (i := 9) rfl)
theorem wm_210 : Cond.fieldLink RX3 15 "RingCircuits$LeastForm" "count" "I" ∈ wA := wi_wA_8 _ (List.mem_of_getElem? (i := 10) rfl)
theorem wm_211 : Cond.fieldLink RX3 19 "RingCircuits$LeastForm" "rest" "I" ∈ wA := wi_wA_8 _ (List.mem_of_getElem? (i := 11) rfl)
theorem wm_212 : Cond.fieldLink RX3 22 "RingCircuits$LeastForm" "word" "I" ∈ wA := wi_wA_8 _ (List.mem_of_getElem? (i := 12) rfl)
theorem wm_213 : Cond.code yX3_imageOfZ cX3_imageOfZ 1 (some .int) ∈ wA := wi_wA_8 _ (List.mem_of_getElem? (i := 13) rfl)
theorem wm_214 : Cond.code yX3_headOf cX3_headOf 2 (some .int) ∈ wA := wi_wA_8 _ (List.mem_of_getElem? (i := 14) rfl)
theorem wm_215 : Cond.methodLink RX3 58 yX3_imageOfZ ∈ wA := wi_wA_8 _ (List.mem_of_getElem? (i := 15) rfl)
theorem wm_216 : Cond.static yX3_imageOfZ ∈ wA := wi_wA_8 _ (List.mem_of_getElem? (i := 16) rfl)
theorem wm_217 : Cond.initialized RX3 ∈ wA := wi_wA_8 _ (List.mem_of_getElem? (i := 17) rfl)
theorem wm_218 : Cond.code yX3_image cX3_image 4 (some .int) ∈ wA := wi_wA_8 _ (List.mem_of_getElem? (i := 18) rfl)
theorem wm_219 : Cond.code yX3_product cX3_product 4 (some .int) ∈ wA := wi_wA_8 _ (List.mem_of_getElem? (i := 19) rfl)
theorem wm_220 : Cond.methodLink RX3 75 yX3_image ∈ wA := wi_wA_8 _ (List.mem_of_getElem? (i := 20) rfl)
theorem wm_221 : Cond.static yX3_image ∈ wA := wi_wA_8 _ (List.mem_of_getElem? (i := 21) rfl)
theorem wm_222 : Cond.code yX3_rotationBackOfHead cX3_rotationBackOfHead 1 (some .int) ∈ wA := wi_wA_8 _ (List.mem_of_getElem? (i := 22) rfl)
theorem wm_223 : Cond.methodLink RX3 45 yX3_product ∈ wA := wi_wA_8 _ (List.mem_of_getElem? (i := 23) rfl)
theorem wm_224 : Cond.static yX3_product ∈ wA := wi_wA_8 _ (List.mem_of_getElem? (i := 24) rfl)
theorem wm_225 : Cond.code yX3_rotationOfHead cX3_rotationOfHead 1 (some .int) ∈ wA := wi_wA_9 _ (List.mem_of_getElem? (i := 0) rfl)
theorem wm_226 : Cond.code yX3_takeT cX3_takeT 3 none ∈ wA := wi_wA_9 _ (List.mem_of_getElem? (i := 1) rfl)
theorem wm_227 : Cond.methodLink RX3 52 yX3_headOf ∈ wA := wi_wA_9 _ (List.mem_of_getElem? (i := 2) rfl)
theorem wm_228 : Cond.static yX3_headOf ∈ wA := wi_wA_9 _ (List.mem_of_getElem? (i := 3) rfl)
theorem wm_229 : Cond.methodLink RX3 55 yX3_rotationBackOfHead ∈ wA := wi_wA_9 _ (List.mem_of_getElem? (i := 4) rfl)
theorem wm_230 : Cond.static yX3_rotationBackOfHead ∈ wA := wi_wA_9 _ (List.mem_of_getElem? (i := 5) rfl)
theorem wm_231 : Cond.methodLink RX3 61 yX3_rotationOfHead ∈ wA := wi_wA_9 _ (List.mem_of_getElem? (i := 6) rfl)
theorem wm_232 : Cond.static yX3_rotationOfHead ∈ wA := wi_wA_9 _ (List.mem_of_getElem? (i := 7) rfl)
theorem wm_233 : Cond.code yX3_rotationOf cX3_rotationOf 1 (some .int) ∈ wA := wi_wA_9 _ (List.mem_of_getElem? (i := 8) rfl)
theorem wm_234 : Cond.code yX3_rotationOfWord cX3_rotationOfWord 3 (some .int) ∈ wA := wi_wA_9 _ (List.mem_of_getElem? (i := 9) rfl)
theorem wm_235 : Cond.code yX3_wordOf cX3_wordOf 2 (some .int) ∈ wA := wi_wA_9 _ (List.mem_of_getElem? (i := 10) rfl)
theorem wm_236 : Cond.methodLink RX3 72 yX3_rotationOfWord ∈ wA := wi_wA_9 _ (List.mem_of_getElem? (i := 11) rfl)
theorem wm_237 : Cond.static yX3_rotationOfWord ∈ wA := wi_wA_9 _ (List.mem_of_getElem? (i := 12) rfl)
theorem wm_238 : Cond.methodLink RX3 25 yX0_count ∈ wA := wi_wA_9 _ (List.mem_of_getElem? (i := 13) rfl)
theorem wm_239 : Cond.methodLink RX3 30 yX0_at ∈ wA := wi_wA_9 _ (List.mem_of_getElem? (i := 14) rfl)
theorem wm_240 : Cond.methodLink RX3 34 yX2_kind ∈ wA := wi_wA_9 _ (List.mem_of_getElem? (i := 15) rfl)
theorem wm_241 : Cond.methodLink RX3 39 yX3_takeT ∈ wA := wi_wA_9 _ (List.mem_of_getElem? (i := 16) rfl)
theorem wm_242 : Cond.instanceMethod yX3_takeT ∈ wA := wi_wA_9 _ (List.mem_of_getElem? (i := 17) rfl)
theorem wm_243 : Cond.selects RX3 yX3_takeT yX3_takeT ∈ wA := wi_wA_9 _ (List.mem_of_getElem? (i := 18) rfl)
theorem wm_244 : Cond.methodLink RX3 42 yX3_rotationOf ∈ wA := wi_wA_9 _ (List.mem_of_getElem? (i := 19) rfl)
theorem wm_245 : Cond.static yX3_rotationOf ∈ wA := wi_wA_9 _ (List.mem_of_getElem? (i := 20) rfl)
theorem wm_246 : Cond.methodLink RX3 49 yX3_wordOf ∈ wA := wi_wA_9 _ (List.mem_of_getElem? (i := 21) rfl)
theorem wm_247 : Cond.static yX3_wordOf ∈ wA := wi_wA_9 _ (List.mem_of_getElem? (i := 22) rfl)
theorem wm_248 : Cond.code yX3_take cX3_take 4 none ∈ wA := wi_wA_9 _ (List.mem_of_getElem? (i := 23) rfl)
theorem wm_249 : Cond.code yX3_countT cX3_countT 1 (some .int) ∈ wA := wi_wA_9 _ (List.mem_of_getElem? (i := 24) rfl)
theorem wm_250 : Cond.code yX3_countGates cX3_countGates 3 (some .int) ∈ wA := wi_wA_10 _ (List.mem_of_getElem? (i := 0) rfl)
theorem wm_251 : Cond.code yX3_addTo cX3_addTo 5 none ∈ wA := wi_wA_10 _ (List.mem_of_getElem? (i := 1) rfl)
theorem wm_252 : Cond.methodLink RX3 64 yX2_of ∈ wA := wi_wA_10 _ (List.mem_of_getElem? (i := 2) rfl)
theorem wm_253 : Cond.methodLink RX3 68 yX0_add ∈ wA := wi_wA_10 _ (List.mem_of_getElem? (i := 3) rfl)
theorem wm_254 : Cond.code yX4_init cX4_init 1 none ∈ wA := wi_wA_10 _ (List.mem_of_getElem? (i := 4) rfl)
theorem wm_255 : Cond.methodLink RX4 3 objectInit ∈ wA := wi_wA_10 _ (List.mem_of_getElem? (i := 5) rfl)
theorem wm_256 : Cond.code yX4_begin cX4_begin 2 none ∈ wA := wi_wA_10 _ (List.mem_of_getElem? (i := 6) rfl)
theorem wm_257 : Cond.fieldLink RX4 9 "RingCircuits$Signs" "x" "I" ∈ wA := wi_wA_10 _ (List.mem_of_getElem? (i := 7) rfl)
theorem wm_258 : Cond.fieldLink RX4 15 "RingCircuits$Signs" "z" "I" ∈ wA := wi_wA_10 _ (List.mem_of_getElem? (i := 8) rfl)
theorem wm_259 : Cond.fieldLink RX4 18 "RingCircuits$Signs" "minus" "I" ∈ wA := wi_wA_10 _ (List.mem_of_getElem? (i := 9) rfl)
theorem wm_260 : Cond.code yX4_bit cX4_bit 2 (some .int) ∈ wA := wi_wA_10 _ (List.mem_of_getElem? (i := 10) rfl)
theorem wm_261 : Cond.code yX4_passH cX4_passH 3 none ∈ wA := wi_wA_10 _ (List.mem_of_getElem? (i := 11) rfl)
theorem wm_262 : Cond.methodLink RX4 37 yX4_bit ∈ wA := wi_wA_10 _ (List.mem_of_getElem? (i := 12) rfl)
theorem wm_263 : Cond.static yX4_bit ∈ wA := wi_wA_10 _ (List.mem_of_getElem? (i := 13) rfl)
theorem wm_264 : Cond.initialized RX4 ∈ wA := wi_wA_10 _ (List.mem_of_getElem? (i := 14) rfl)
theorem wm_265 : Cond.code yX4_passCX cX4_passCX 3 none ∈ wA := wi_wA_10 _ (List.mem_of_getElem? (i := 15) rfl)
theorem wm_266 : Cond.code yX4_traded cX4_traded 4 (some .int) ∈ wA := wi_wA_10 _ (List.mem_of_getElem? (i := 16) rfl)
theorem wm_267 : Cond.methodLink RX4 21 yX2_a ∈ wA := wi_wA_10 _ (List.mem_of_getElem? (i := 17) rfl)
theorem wm_268 : Cond.methodLink RX4 27 yX2_b ∈ wA := wi_wA_10 _ (List.mem_of_getElem? (i := 18) rfl)
theorem wm_269 : Cond.methodLink RX4 30 yX2_kind ∈ wA := wi_wA_10 _ (List.mem_of_getElem? (i := 19) rfl)
theorem wm_270 : Cond.methodLink RX4 33 yX4_passH ∈ wA := wi_wA_10 _ (List.mem_of_getElem? (i := 20) rfl)
theorem wm_271 : Cond.instanceMethod yX4_passH ∈ wA := wi_wA_10 _ (List.mem_of_getElem? (i := 21) rfl)
theorem wm_272 : Cond.selects RX4 yX4_passH yX4_passH ∈ wA := wi_wA_10 _ (List.mem_of_getElem? (i := 22) rfl)
theorem wm_273 : Cond.methodLink RX4 41 yX4_passCX ∈ wA := wi_wA_10 _ (List.mem_of_getElem? (i := 23) rfl)
theorem wm_274 : Cond.instanceMethod yX4_passCX ∈ wA := wi_wA_10 _ (List.mem_of_getElem? (i := 24) rfl)
theorem wm_275 : Cond.selects RX4 yX4_passCX yX4_passCX ∈ wA := wi_wA_11 _ (List.mem_of_getElem? (i := 0) rfl)
theorem wm_276 : Cond.methodLink RX4 45 yX4_traded ∈ wA := wi_wA_11 _ (List.mem_of_getElem? (i := 1) rfl)
theorem wm_277 : Cond.static yX4_traded ∈ wA := wi_wA_11 _ (List.mem_of_getElem? (i := 2) rfl)
theorem wm_278 : Cond.code yX4_pass cX4_pass 4 none ∈ wA := wi_wA_11 _ (List.mem_of_getElem? (i := 3) rfl)
theorem wm_279 : Cond.code yX4_digits cX4_digits 4 (some .int) ∈ wA := wi_wA_11 _ (List.mem_of_getElem? (i := 4) rfl)
theorem wm_280 : Cond.code yX5_init cX5_init 1 none ∈ wA := wi_wA_11 _ (List.mem_of_getElem? (i := 5) rfl)
theorem wm_281 : Cond.methodLink RX5 3 objectInit ∈ wA := wi_wA_11 _ (List.mem_of_getElem? (i := 6) rfl)
theorem wm_282 : Cond.arrayClass .char ∈ wA := wi_wA_11 _ (List.mem_of_getElem? (i := 7) rfl)
theorem wm_283 : Cond.fieldLink RX5 11 "RingCircuits$Text" "characters" "[C" ∈ wA := wi_wA_11 _ (List.mem_of_getElem? (i := 8) rfl)
theorem wm_284 : Cond.fieldLink RX5 15 "RingCircuits$Text" "count" "I" ∈ wA := wi_wA_11 _ (List.mem_of_getElem? (i := 9) rfl)
theorem wm_285 : Cond.fieldLink RX5 19 "RingCircuits$Text" "reached" "I" ∈ wA := wi_wA_11 _ (List.mem_of_getElem? (i := 10) rfl)
theorem wm_286 : Cond.code yX5_count cX5_count 1 (some .int) ∈ wA := wi_wA_11 _ (List.mem_of_getElem? (i := 11) rfl)
theorem wm_287 : Cond.code yX5_at cX5_at 2 (some .int) ∈ wA := wi_wA_11 _ (List.mem_of_getElem? (i := 12) rfl)
theorem wm_288 : Cond.code yX5_removeAll cX5_removeAll 1 none ∈ wA := wi_wA_11 _ (List.mem_of_getElem? (i := 13) rfl)
theorem wm_289 : Cond.code yX5_byteAt cX5_byteAt 3 (some .int) ∈ wA := wi_wA_11 _ (List.mem_of_getElem? (i := 14) rfl)
theorem wm_290 : Cond.constantLong RX5 30 (255) ∈ wA := wi_wA_11 _ (List.mem_of_getElem? (i := 15) rfl)
theorem wm_291 : Cond.code yX5_put cX5_put 2 none ∈ wA := wi_wA_11 _ (List.mem_of_getElem? (i := 16) rfl)
theorem wm_292 : Cond.code yX5_addBytes cX5_addBytes 6 (some .boolean) ∈ wA := wi_wA_11 _ (List.mem_of_getElem? (i := 17) rfl)
theorem wm_293 : Cond.methodLink RX5 22 yX5_byteAt ∈ wA := wi_wA_11 _ (List.mem_of_getElem? (i := 18) rfl)
theorem wm_294 : Cond.static yX5_byteAt ∈ wA := wi_wA_11 _ (List.mem_of_getElem? (i := 19) rfl)
theorem wm_295 : Cond.initialized RX5 ∈ wA := wi_wA_11 _ (List.mem_of_getElem? (i := 20) rfl)
theorem wm_296 : Cond.methodLink RX5 26 yX5_put ∈ wA := wi_wA_11 _ (List.mem_of_getElem? (i := 21) rfl)
theorem wm_297 : Cond.instanceMethod yX5_put ∈ wA := wi_wA_11 _ (List.mem_of_getElem? (i := 22) rfl)
theorem wm_298 : Cond.selects RX5 yX5_put yX5_put ∈ wA := wi_wA_11 _ (List.mem_of_getElem? (i := 23) rfl)
theorem wm_299 : Cond.code yJ0_coder_7d493 cJ0_coder_7d493 1 (some .byte) ∈ wA := wi_wA_11 _ (List.mem_of_getElem? (i := 24) rfl)
theorem wm_300 : Cond.fieldLink RJ0 38 "java/lang/String" "COMPACT_STRINGS" "Z" ∈ wA := wi_wA_12 _ (List.mem_of_getElem? (i := 0) rfl)
theorem wm_301 : Cond.fieldLink RJ0 15 "java/lang/String" "coder" "B" ∈ wA := wi_wA_12 _ (List.mem_of_getElem? (i := 1) rfl)
theorem wm_302 : Cond.code yJ0_length_8abf5 cJ0_length_8abf5 1 (some .int) ∈ wA := wi_wA_12 _ (List.mem_of_getElem? (i := 2) rfl)
theorem wm_303 : Cond.fieldLink RJ0 9 "java/lang/String" "value" "[B" ∈ wA := wi_wA_12 _ (List.mem_of_getElem? (i := 3) rfl)
theorem wm_304 : Cond.methodLink RJ0 335 yJ0_coder_7d493 ∈ wA := wi_wA_12 _ (List.mem_of_getElem? (i := 4) rfl)
theorem wm_305 : Cond.instanceMethod yJ0_coder_7d493 ∈ wA := wi_wA_12 _ (List.mem_of_getElem? (i := 5) rfl)
theorem wm_306 : Cond.selects RJ0 yJ0_coder_7d493 yJ0_coder_7d493 ∈ wA := wi_wA_12 _ (List.mem_of_getElem? (i := 6) rfl)
theorem wm_307 : Cond.initialized RJ0 ∈ wA := wi_wA_12 _ (List.mem_of_getElem? (i := 7) rfl)
theorem wm_308 : Cond.code yJ0_isLatin1_aae02 cJ0_isLatin1_aae02 1 (some .boolean) ∈ wA := wi_wA_12 _ (List.mem_of_getElem? (i := 8) rfl)
theorem wm_309 : Cond.code yJ3_checkIndex_8e157 cJ3_checkIndex_8e157 3 (some .int) ∈ wA := wi_wA_12 _ (List.mem_of_getElem? (i := 9) rfl)
theorem wm_310 : Cond.code yJ0_checkIndex_df160 cJ0_checkIndex_df160 2 none ∈ wA := wi_wA_12 _ (List.mem_of_getElem? (i := 10) rfl)
theorem wm_311 : Cond.fieldLink RJ0 1053 "jdk/internal/util/Preconditions" "SIOOBE_FORMATTER" "Ljava/util/function/BiFunction;" ∈ wA := wi_wA_12 _ (List.mem_of_getElem? (i := 11) rfl)
theorem wm_312 : Cond.methodLink RJ0 1059 yJ3_checkIndex_8e157 ∈ wA := wi_wA_12 _ (List.mem_of_getElem? (i := 12) rfl)
theorem wm_313 : Cond.static yJ3_checkIndex_8e157 ∈ wA := wi_wA_12 _ (List.mem_of_getElem? (i := 13) rfl)
theorem wm_314 : Cond.initialized RJ3 ∈ wA := wi_wA_12 _ (List.mem_of_getElem? (i := 14) rfl)
theorem wm_315 : Cond.code yJ1_charAt_3b067 cJ1_charAt_3b067 2 (some .char) ∈ wA := wi_wA_12 _ (List.mem_of_getElem? (i := 15) rfl)
theorem wm_316 : Cond.methodLink RJ1 9 yJ0_checkIndex_df160 ∈ wA := wi_wA_12 _ (List.mem_of_getElem? (i := 16) rfl)
theorem wm_317 : Cond.static yJ0_checkIndex_df160 ∈ wA := wi_wA_12 _ (List.mem_of_getElem? (i := 17) rfl)
theorem wm_318 : Cond.code yJ2_length_9d52b cJ2_length_9d52b 1 (some .int) ∈ wA := wi_wA_12 _ (List.mem_of_getElem? (i := 18) rfl)
theorem wm_319 : Cond.code yJ2_checkIndex_2214a cJ2_checkIndex_2214a 2 none ∈ wA := wi_wA_12 _ (List.mem_of_getElem? (i := 19) rfl)
theorem wm_320 : Cond.methodLink RJ2 48 yJ2_length_9d52b ∈ wA := wi_wA_12 _ (List.mem_of_getElem? (i := 20) rfl)
theorem wm_321 : Cond.static yJ2_length_9d52b ∈ wA := wi_wA_12 _ (List.mem_of_getElem? (i := 21) rfl)
theorem wm_322 : Cond.initialized RJ2 ∈ wA := wi_wA_12 _ (List.mem_of_getElem? (i := 22) rfl)
theorem wm_323 : Cond.methodLink RJ2 414 yJ0_checkIndex_df160 ∈ wA := wi_wA_12 _ (List.mem_of_getElem? (i := 23) rfl)
theorem wm_324 : Cond.code yJ2_getChar_3b067 cJ2_getChar_3b067 2 (some .char) ∈ wA := wi_wA_12 _ (List.mem_of_getElem? (i := 24) rfl)
theorem wm_325 : Cond.fieldLink RJ2 44 "java/lang/StringUTF16" "$assertionsDisabled" "Z" ∈ wA := wi_wA_13 _ (List.mem_of_getElem? (i := 0) rfl)
theorem wm_326 : Cond.fieldLink RJ2 59 "java/lang/StringUTF16" "HI_BYTE_SHIFT" "I" ∈ wA := wi_wA_13 _ (List.mem_of_getElem? (i := 1) rfl)
theorem wm_327 : Cond.fieldLink RJ2 63 "java/lang/StringUTF16" "LO_BYTE_SHIFT" "I" ∈ wA := wi_wA_13 _ (List.mem_of_getElem? (i := 2) rfl)
theorem wm_328 : Cond.code yJ2_charAt_3b067 cJ2_charAt_3b067 2 (some .char) ∈ wA := wi_wA_13 _ (List.mem_of_getElem? (i := 3) rfl)
theorem wm_329 : Cond.methodLink RJ2 67 yJ2_checkIndex_2214a ∈ wA := wi_wA_13 _ (List.mem_of_getElem? (i := 4) rfl)
theorem wm_330 : Cond.static yJ2_checkIndex_2214a ∈ wA := wi_wA_13 _ (List.mem_of_getElem? (i := 5) rfl)
theorem wm_331 : Cond.methodLink RJ2 71 yJ2_getChar_3b067 ∈ wA := wi_wA_13 _ (List.mem_of_getElem? (i := 6) rfl)
theorem wm_332 : Cond.static yJ2_getChar_3b067 ∈ wA := wi_wA_13 _ (List.mem_of_getElem? (i := 7) rfl)
theorem wm_333 : Cond.methodLink RJ0 492 yJ0_isLatin1_aae02 ∈ wA := wi_wA_13 _ (List.mem_of_getElem? (i := 8) rfl)
theorem wm_334 : Cond.instanceMethod yJ0_isLatin1_aae02 ∈ wA := wi_wA_13 _ (List.mem_of_getElem? (i := 9) rfl)
theorem wm_335 : Cond.selects RJ0 yJ0_isLatin1_aae02 yJ0_isLatin1_aae02 ∈ wA := wi_wA_13 _ (List.mem_of_getElem? (i := 10) rfl)
theorem wm_336 : Cond.methodLink RJ0 495 yJ1_charAt_3b067 ∈ wA := wi_wA_13 _ (List.mem_of_getElem? (i := 11) rfl)
theorem wm_337 : Cond.static yJ1_charAt_3b067 ∈ wA := wi_wA_13 _ (List.mem_of_getElem? (i := 12) rfl)
theorem wm_338 : Cond.initialized RJ1 ∈ wA := wi_wA_13 _ (List.mem_of_getElem? (i := 13) rfl)
theorem wm_339 : Cond.methodLink RJ0 498 yJ2_charAt_3b067 ∈ wA := wi_wA_13 _ (List.mem_of_getElem? (i := 14) rfl)
theorem wm_340 : Cond.static yJ2_charAt_3b067 ∈ wA := wi_wA_13 _ (List.mem_of_getElem? (i := 15) rfl)
theorem wm_341 : Cond.code yJ0_charAt_5068e cJ0_charAt_5068e 2 (some .char) ∈ wA := wi_wA_13 _ (List.mem_of_getElem? (i := 16) rfl)
theorem wm_342 : Cond.methodLink RX5 48 yX2_kind ∈ wA := wi_wA_13 _ (List.mem_of_getElem? (i := 17) rfl)
theorem wm_343 : Cond.methodLink RX5 55 yJ0_length_8abf5 ∈ wA := wi_wA_13 _ (List.mem_of_getElem? (i := 18) rfl)
theorem wm_344 : Cond.instanceMethod yJ0_length_8abf5 ∈ wA := wi_wA_13 _ (List.mem_of_getElem? (i := 19) rfl)
theorem wm_345 : Cond.selects RJ0 yJ0_length_8abf5 yJ0_length_8abf5 ∈ wA := wi_wA_13 _ (List.mem_of_getElem? (i := 20) rfl)
theorem wm_346 : Cond.methodLink RX5 60 yJ0_charAt_5068e ∈ wA := wi_wA_13 _ (List.mem_of_getElem? (i := 21) rfl)
theorem wm_347 : Cond.instanceMethod yJ0_charAt_5068e ∈ wA := wi_wA_13 _ (List.mem_of_getElem? (i := 22) rfl)
theorem wm_348 : Cond.selects RJ0 yJ0_charAt_5068e yJ0_charAt_5068e ∈ wA := wi_wA_13 _ (List.mem_of_getElem? (i := 23) rfl)
theorem wm_349 : Cond.methodLink RX5 64 yX2_wiresOf ∈ wA := wi_wA_13 _ (List.mem_of_getElem? (i := 24) rfl)
theorem wm_350 : Cond.code yX5_writeGate cX5_writeGate 5 none ∈ wA := wi_wA_14 _ (List.mem_of_getElem? (i := 0) rfl)
theorem wm_351 : Cond.methodLink RX5 32 yX5_removeAll ∈ wA := wi_wA_14 _ (List.mem_of_getElem? (i := 1) rfl)
theorem wm_352 : Cond.instanceMethod yX5_removeAll ∈ wA := wi_wA_14 _ (List.mem_of_getElem? (i := 2) rfl)
theorem wm_353 : Cond.selects RX5 yX5_removeAll yX5_removeAll ∈ wA := wi_wA_14 _ (List.mem_of_getElem? (i := 3) rfl)
theorem wm_354 : Cond.methodLink RX5 35 yX0_count ∈ wA := wi_wA_14 _ (List.mem_of_getElem? (i := 4) rfl)
theorem wm_355 : Cond.methodLink RX5 40 yX0_at ∈ wA := wi_wA_14 _ (List.mem_of_getElem? (i := 5) rfl)
theorem wm_356 : Cond.methodLink RX5 44 yX5_writeGate ∈ wA := wi_wA_14 _ (List.mem_of_getElem? (i := 6) rfl)
theorem wm_357 : Cond.instanceMethod yX5_writeGate ∈ wA := wi_wA_14 _ (List.mem_of_getElem? (i := 7) rfl)
theorem wm_358 : Cond.selects RX5 yX5_writeGate yX5_writeGate ∈ wA := wi_wA_14 _ (List.mem_of_getElem? (i := 8) rfl)
theorem wm_359 : Cond.code yX5_write cX5_write 3 none ∈ wA := wi_wA_14 _ (List.mem_of_getElem? (i := 9) rfl)
theorem wm_360 : Cond.code yJ1_canEncode_9a6ad cJ1_canEncode_9a6ad 1 (some .boolean) ∈ wA := wi_wA_14 _ (List.mem_of_getElem? (i := 10) rfl)
theorem wm_361 : Cond.code yJ1_indexOfChar_4cfef cJ1_indexOfChar_4cfef 6 (some .int) ∈ wA := wi_wA_14 _ (List.mem_of_getElem? (i := 11) rfl)
theorem wm_362 : Cond.code yJ1_indexOf_4cfef cJ1_indexOf_4cfef 4 (some .int) ∈ wA := wi_wA_14 _ (List.mem_of_getElem? (i := 12) rfl)
theorem wm_363 : Cond.methodLink RJ1 92 Lib.Math.max.name ∈ wA := wi_wA_14 _ (List.mem_of_getElem? (i := 13) rfl)
theorem wm_364 : Cond.static Lib.Math.max.name ∈ wA := wi_wA_14 _ (List.mem_of_getElem? (i := 14) rfl)
theorem wm_365 : Cond.initialized "java/lang/Math" ∈ wA := wi_wA_14 _ (List.mem_of_getElem? (i := 15) rfl)
theorem wm_366 : Cond.code Lib.Math.max.name Lib.Math.max.code 2 (some .int) ∈ wA := wi_wA_14 _ (List.mem_of_getElem? (i := 16) rfl)
theorem wm_367 : Cond.methodLink RJ1 38 Lib.Math.min.name ∈ wA := wi_wA_14 _ (List.mem_of_getElem? (i := 17) rfl)
theorem wm_368 : Cond.static Lib.Math.min.name ∈ wA := wi_wA_14 _ (List.mem_of_getElem? (i := 18) rfl)
theorem wm_369 : Cond.code Lib.Math.min.name Lib.Math.min.code 2 (some .int) ∈ wA := wi_wA_14 _ (List.mem_of_getElem? (i := 19) rfl)
theorem wm_370 : Cond.methodLink RJ1 88 yJ1_canEncode_9a6ad ∈ wA := wi_wA_14 _ (List.mem_of_getElem? (i := 20) rfl)
theorem wm_371 : Cond.static yJ1_canEncode_9a6ad ∈ wA := wi_wA_14 _ (List.mem_of_getElem? (i := 21) rfl)
theorem wm_372 : Cond.methodLink RJ1 95 yJ1_indexOfChar_4cfef ∈ wA := wi_wA_14 _ (List.mem_of_getElem? (i := 22) rfl)
theorem wm_373 : Cond.static yJ1_indexOfChar_4cfef ∈ wA := wi_wA_14 _ (List.mem_of_getElem? (i := 23) rfl)
theorem wm_374 : Cond.code yJ3_checkFromToIndex_8c36e cJ3_checkFromToIndex_8c36e 4 (some .int) ∈ wA := wi_wA_14 _ (List.mem_of_getElem? (i := 24) rfl)
theorem wm_375 : Cond.code yJ0_checkBoundsBeginEnd_23922 cJ0_checkBoundsBeginEnd_23922 3 none ∈ wA := wi_wA_15 _ (List.mem_of_getElem? (i := 0) rfl)
theorem wm_376 : Cond.methodLink RJ0 1062 yJ3_checkFromToIndex_8c36e ∈ wA := wi_wA_15 _ (List.mem_of_getElem? (i := 1) rfl)
theorem wm_377 : Cond.static yJ3_checkFromToIndex_8c36e ∈ wA := wi_wA_15 _ (List.mem_of_getElem? (i := 2) rfl)
theorem wm_378 : Cond.code yJ2_checkBoundsBeginEnd_d044e cJ2_checkBoundsBeginEnd_d044e 3 none ∈ wA := wi_wA_15 _ (List.mem_of_getElem? (i := 3) rfl)
theorem wm_379 : Cond.methodLink RJ2 241 yJ0_checkBoundsBeginEnd_23922 ∈ wA := wi_wA_15 _ (List.mem_of_getElem? (i := 4) rfl)
theorem wm_380 : Cond.static yJ0_checkBoundsBeginEnd_23922 ∈ wA := wi_wA_15 _ (List.mem_of_getElem? (i := 5) rfl)
theorem wm_381 : Cond.code yJ2_indexOfCharUnsafe_4cfef cJ2_indexOfCharUnsafe_4cfef 5 (some .int) ∈ wA := wi_wA_15 _ (List.mem_of_getElem? (i := 6) rfl)
theorem wm_382 : Cond.methodLink RJ2 96 yJ2_checkBoundsBeginEnd_d044e ∈ wA := wi_wA_15 _ (List.mem_of_getElem? (i := 7) rfl)
theorem wm_383 : Cond.static yJ2_checkBoundsBeginEnd_d044e ∈ wA := wi_wA_15 _ (List.mem_of_getElem? (i := 8) rfl)
theorem wm_384 : Cond.methodLink RJ2 244 yJ2_indexOfCharUnsafe_4cfef ∈ wA := wi_wA_15 _ (List.mem_of_getElem? (i := 9) rfl)
theorem wm_385 : Cond.static yJ2_indexOfCharUnsafe_4cfef ∈ wA := wi_wA_15 _ (List.mem_of_getElem? (i := 10) rfl)
theorem wm_386 : Cond.code yJ2_indexOfChar_4cfef cJ2_indexOfChar_4cfef 4 (some .int) ∈ wA := wi_wA_15 _ (List.mem_of_getElem? (i := 11) rfl)
theorem wm_387 : Cond.code yJ11_isValidCodePoint_9a6ad cJ11_isValidCodePoint_9a6ad 2 (some .boolean) ∈ wA := wi_wA_15 _ (List.mem_of_getElem? (i := 12) rfl)
theorem wm_388 : Cond.code yJ11_highSurrogate_5068e cJ11_highSurrogate_5068e 1 (some .char) ∈ wA := wi_wA_15 _ (List.mem_of_getElem? (i := 13) rfl)
theorem wm_389 : Cond.constant RJ11 110 (55232) ∈ wA := wi_wA_15 _ (List.mem_of_getElem? (i := 14) rfl)
theorem wm_390 : Cond.code yJ11_lowSurrogate_5068e cJ11_lowSurrogate_5068e 1 (some .char) ∈ wA := wi_wA_15 _ (List.mem_of_getElem? (i := 15) rfl)
theorem wm_391 : Cond.constant RJ11 76 (56320) ∈ wA := wi_wA_15 _ (List.mem_of_getElem? (i := 16) rfl)
theorem wm_392 : Cond.methodLink RJ2 164 yJ11_isValidCodePoint_9a6ad ∈ wA := wi_wA_15 _ (List.mem_of_getElem? (i := 17) rfl)
theorem wm_393 : Cond.static yJ11_isValidCodePoint_9a6ad ∈ wA := wi_wA_15 _ (List.mem_of_getElem? (i := 18) rfl)
theorem wm_394 : Cond.initialized RJ11 ∈ wA := wi_wA_15 _ (List.mem_of_getElem? (i := 19) rfl)
theorem wm_395 : Cond.methodLink RJ2 157 yJ11_highSurrogate_5068e ∈ wA := wi_wA_15 _ (List.mem_of_getElem? (i := 20) rfl)
theorem wm_396 : Cond.static yJ11_highSurrogate_5068e ∈ wA := wi_wA_15 _ (List.mem_of_getElem? (i := 21) rfl)
theorem wm_397 : Cond.methodLink RJ2 161 yJ11_lowSurrogate_5068e ∈ wA := wi_wA_15 _ (List.mem_of_getElem? (i := 22) rfl)
theorem wm_398 : Cond.static yJ11_lowSurrogate_5068e ∈ wA := wi_wA_15 _ (List.mem_of_getElem? (i := 23) rfl)
theorem wm_399 : Cond.code yJ2_indexOfSupplementary_4cfef cJ2_indexOfSupplementary_4cfef 7 (some .int) ∈ wA := wi_wA_15 _ (List.mem_of_getElem? (i := 24) rfl)
theorem wm_400 : Cond.methodLink RJ2 224 Lib.Math.max.name ∈ wA := wi_wA_16 _ (List.mem_of_getElem? (i := 0) rfl)
theorem wm_401 : Cond.methodLink RJ2 183 Lib.Math.min.name ∈ wA := wi_wA_16 _ (List.mem_of_getElem? (i := 1) rfl)
theorem wm_402 : Cond.constant RJ2 227 (65536) ∈ wA := wi_wA_16 _ (List.mem_of_getElem? (i := 2) rfl)
theorem wm_403 : Cond.methodLink RJ2 228 yJ2_indexOfChar_4cfef ∈ wA := wi_wA_16 _ (List.mem_of_getElem? (i := 3) rfl)
theorem wm_404 : Cond.static yJ2_indexOfChar_4cfef ∈ wA := wi_wA_16 _ (List.mem_of_getElem? (i := 4) rfl)
theorem wm_405 : Cond.methodLink RJ2 232 yJ2_indexOfSupplementary_4cfef ∈ wA := wi_wA_16 _ (List.mem_of_getElem? (i := 5) rfl)
theorem wm_406 : Cond.static yJ2_indexOfSupplementary_4cfef ∈ wA := wi_wA_16 _ (List.mem_of_getElem? (i := 6) rfl)
theorem wm_407 : Cond.code yJ2_indexOf_4cfef cJ2_indexOf_4cfef 4 (some .int) ∈ wA := wi_wA_16 _ (List.mem_of_getElem? (i := 7) rfl)
theorem wm_408 : Cond.methodLink RJ0 505 yJ0_length_8abf5 ∈ wA := wi_wA_16 _ (List.mem_of_getElem? (i := 8) rfl)
theorem wm_409 : Cond.methodLink RJ0 637 yJ1_indexOf_4cfef ∈ wA := wi_wA_16 _ (List.mem_of_getElem? (i := 9) rfl)
theorem wm_410 : Cond.static yJ1_indexOf_4cfef ∈ wA := wi_wA_16 _ (List.mem_of_getElem? (i := 10) rfl)
theorem wm_411 : Cond.methodLink RJ0 640 yJ2_indexOf_4cfef ∈ wA := wi_wA_16 _ (List.mem_of_getElem? (i := 11) rfl)
theorem wm_412 : Cond.static yJ2_indexOf_4cfef ∈ wA := wi_wA_16 _ (List.mem_of_getElem? (i := 12) rfl)
theorem wm_413 : Cond.code yJ0_indexOf_7cf53 cJ0_indexOf_7cf53 3 (some .int) ∈ wA := wi_wA_16 _ (List.mem_of_getElem? (i := 13) rfl)
theorem wm_414 : Cond.methodLink RJ0 633 yJ0_indexOf_7cf53 ∈ wA := wi_wA_16 _ (List.mem_of_getElem? (i := 14) rfl)
theorem wm_415 : Cond.instanceMethod yJ0_indexOf_7cf53 ∈ wA := wi_wA_16 _ (List.mem_of_getElem? (i := 15) rfl)
theorem wm_416 : Cond.selects RJ0 yJ0_indexOf_7cf53 yJ0_indexOf_7cf53 ∈ wA := wi_wA_16 _ (List.mem_of_getElem? (i := 16) rfl)
theorem wm_417 : Cond.code yJ0_indexOf_0f7a4 cJ0_indexOf_0f7a4 2 (some .int) ∈ wA := wi_wA_16 _ (List.mem_of_getElem? (i := 17) rfl)
theorem wm_418 : Cond.methodLink RX5 74 yX5_at ∈ wA := wi_wA_16 _ (List.mem_of_getElem? (i := 18) rfl)
theorem wm_419 : Cond.instanceMethod yX5_at ∈ wA := wi_wA_16 _ (List.mem_of_getElem? (i := 19) rfl)
theorem wm_420 : Cond.selects RX5 yX5_at yX5_at ∈ wA := wi_wA_16 _ (List.mem_of_getElem? (i := 20) rfl)
theorem wm_421 : Cond.methodLink RX5 75 yJ0_indexOf_0f7a4 ∈ wA := wi_wA_16 _ (List.mem_of_getElem? (i := 21) rfl)
theorem wm_422 : Cond.instanceMethod yJ0_indexOf_0f7a4 ∈ wA := wi_wA_16 _ (List.mem_of_getElem? (i := 22) rfl)
theorem wm_423 : Cond.selects RJ0 yJ0_indexOf_0f7a4 yJ0_indexOf_0f7a4 ∈ wA := wi_wA_16 _ (List.mem_of_getElem? (i := 23) rfl)
theorem wm_424 : Cond.code yX5_parseGate cX5_parseGate 8 (some .int) ∈ wA := wi_wA_16 _ (List.mem_of_getElem? (i := 24) rfl)
theorem wm_425 : Cond.methodLink RX5 67 yX0_removeAll ∈ wA := wi_wA_17 _ (List.mem_of_getElem? (i := 0) rfl)
theorem wm_426 : Cond.methodLink RX5 68 yX5_parseGate ∈ wA := wi_wA_17 _ (List.mem_of_getElem? (i := 1) rfl)
theorem wm_427 : Cond.instanceMethod yX5_parseGate ∈ wA := wi_wA_17 _ (List.mem_of_getElem? (i := 2) rfl)
theorem wm_428 : Cond.selects RX5 yX5_parseGate yX5_parseGate ∈ wA := wi_wA_17 _ (List.mem_of_getElem? (i := 3) rfl)
theorem wm_429 : Cond.methodLink RX5 71 yX0_add ∈ wA := wi_wA_17 _ (List.mem_of_getElem? (i := 4) rfl)
theorem wm_430 : Cond.code yX5_parse cX5_parse 5 (some .int) ∈ wA := wi_wA_17 _ (List.mem_of_getElem? (i := 5) rfl)
theorem wm_431 : Cond.methodLink RX6 1 objectInit ∈ wA := wi_wA_17 _ (List.mem_of_getElem? (i := 6) rfl)
theorem wm_432 : Cond.classLink RX6 7 RX0 ∈ wA := wi_wA_17 _ (List.mem_of_getElem? (i := 7) rfl)
theorem wm_433 : Cond.instantiable RX0 2 ∈ wA := wi_wA_17 _ (List.mem_of_getElem? (i := 8) rfl)
theorem wm_434 : Cond.fieldLink RX6 10 "RingCircuits" "first" "LRingCircuits$Circuit;" ∈ wA := wi_wA_17 _ (List.mem_of_getElem? (i := 9) rfl)
theorem wm_435 : Cond.fieldLink RX6 16 "RingCircuits" "second" "LRingCircuits$Circuit;" ∈ wA := wi_wA_17 _ (List.mem_of_getElem? (i := 10) rfl)
theorem wm_436 : Cond.fieldLink RX6 19 "RingCircuits" "third" "LRingCircuits$Circuit;" ∈ wA := wi_wA_17 _ (List.mem_of_getElem? (i := 11) rfl)
theorem wm_437 : Cond.fieldLink RX6 22 "RingCircuits" "spare" "LRingCircuits$Circuit;" ∈ wA := wi_wA_17 _ (List.mem_of_getElem? (i := 12) rfl)
theorem wm_438 : Cond.classLink RX6 25 RX1 ∈ wA := wi_wA_17 _ (List.mem_of_getElem? (i := 13) rfl)
theorem wm_439 : Cond.instantiable RX1 3 ∈ wA := wi_wA_17 _ (List.mem_of_getElem? (i := 14) rfl)
theorem wm_440 : Cond.fieldLink RX6 28 "RingCircuits" "amplitudes" "LRingCircuits$Column;" ∈ wA := wi_wA_17 _ (List.mem_of_getElem? (i := 15) rfl)
theorem wm_441 : Cond.fieldLink RX6 32 "RingCircuits" "left" "LRingCircuits$Column;" ∈ wA := wi_wA_17 _ (List.mem_of_getElem? (i := 16) rfl)
theorem wm_442 : Cond.fieldLink RX6 35 "RingCircuits" "right" "LRingCircuits$Column;" ∈ wA := wi_wA_17 _ (List.mem_of_getElem? (i := 17) rfl)
theorem wm_443 : Cond.classLink RX6 38 RX4 ∈ wA := wi_wA_17 _ (List.mem_of_getElem? (i := 18) rfl)
theorem wm_444 : Cond.instantiable RX4 3 ∈ wA := wi_wA_17 _ (List.mem_of_getElem? (i := 19) rfl)
theorem wm_445 : Cond.fieldLink RX6 41 "RingCircuits" "signs" "LRingCircuits$Signs;" ∈ wA := wi_wA_17 _ (List.mem_of_getElem? (i := 20) rfl)
theorem wm_446 : Cond.classLink RX6 45 RX3 ∈ wA := wi_wA_17 _ (List.mem_of_getElem? (i := 21) rfl)
theorem wm_447 : Cond.instantiable RX3 4 ∈ wA := wi_wA_17 _ (List.mem_of_getElem? (i := 22) rfl)
theorem wm_448 : Cond.fieldLink RX6 48 "RingCircuits" "form" "LRingCircuits$LeastForm;" ∈ wA := wi_wA_17 _ (List.mem_of_getElem? (i := 23) rfl)
theorem wm_449 : Cond.classLink RX6 52 RX5 ∈ wA := wi_wA_17 _ (List.mem_of_getElem? (i := 24) rfl)
theorem wm_450 : Cond.instantiable RX5 3 ∈ wA := wi_wA_18 _ (List.mem_of_getElem? (i := 0) rfl)
theorem wm_451 : Cond.fieldLink RX6 55 "RingCircuits" "text" "LRingCircuits$Text;" ∈ wA := wi_wA_18 _ (List.mem_of_getElem? (i := 1) rfl)
theorem wm_452 : Cond.fieldLink RX6 59 "RingCircuits" "wireCount" "I" ∈ wA := wi_wA_18 _ (List.mem_of_getElem? (i := 2) rfl)
theorem wm_453 : Cond.fieldLink RX6 63 "RingCircuits" "hasState" "Z" ∈ wA := wi_wA_18 _ (List.mem_of_getElem? (i := 3) rfl)
theorem wm_454 : Cond.fieldLink RX6 67 "RingCircuits" "phase" "I" ∈ wA := wi_wA_18 _ (List.mem_of_getElem? (i := 4) rfl)
theorem wm_455 : Cond.fieldLink RX6 70 "RingCircuits" "place" "I" ∈ wA := wi_wA_18 _ (List.mem_of_getElem? (i := 5) rfl)
theorem wm_456 : Cond.methodLink RX6 9 yX0_init ∈ wA := wi_wA_18 _ (List.mem_of_getElem? (i := 6) rfl)
theorem wm_457 : Cond.instanceMethod yX0_init ∈ wA := wi_wA_18 _ (List.mem_of_getElem? (i := 7) rfl)
theorem wm_458 : Cond.methodLink RX6 27 yX1_init ∈ wA := wi_wA_18 _ (List.mem_of_getElem? (i := 8) rfl)
theorem wm_459 : Cond.instanceMethod yX1_init ∈ wA := wi_wA_18 _ (List.mem_of_getElem? (i := 9) rfl)
theorem wm_460 : Cond.instanceMethod yX4_init ∈ wA := wi_wA_18 _ (List.mem_of_getElem? (i := 10) rfl)
theorem wm_461 : Cond.methodLink RX6 47 yX3_init ∈ wA := wi_wA_18 _ (List.mem_of_getElem? (i := 11) rfl)
theorem wm_462 : Cond.instanceMethod yX3_init ∈ wA := wi_wA_18 _ (List.mem_of_getElem? (i := 12) rfl)
theorem wm_463 : Cond.methodLink RX6 54 yX5_init ∈ wA := wi_wA_18 _ (List.mem_of_getElem? (i := 13) rfl)
theorem wm_464 : Cond.instanceMethod yX5_init ∈ wA := wi_wA_18 _ (List.mem_of_getElem? (i := 14) rfl)
theorem wm_465 : Cond.code yX6_init cX6_init 1 none ∈ wA := wi_wA_18 _ (List.mem_of_getElem? (i := 15) rfl)
theorem wm_466 : Cond.code yX6_wires cX6_wires 2 none ∈ wA := wi_wA_18 _ (List.mem_of_getElem? (i := 16) rfl)
theorem wm_467 : Cond.classLink RX6 73 "java/lang/IllegalArgumentException" ∈ wA := wi_wA_18 _ (List.mem_of_getElem? (i := 17) rfl)
theorem wm_468 : Cond.initialized "java/lang/IllegalArgumentException" ∈ wA := wi_wA_18 _ (List.mem_of_getElem? (i := 18) rfl)
theorem wm_469 : Cond.methodLink RX6 80 yX0_removeAll ∈ wA := wi_wA_18 _ (List.mem_of_getElem? (i := 19) rfl)
theorem wm_470 : Cond.methodLink RX6 83 yX5_removeAll ∈ wA := wi_wA_18 _ (List.mem_of_getElem? (i := 20) rfl)
theorem wm_471 : Cond.code yX6_inSlot cX6_inSlot 2 (some (.object "RingCircuits$Circuit")) ∈ wA := wi_wA_18 _ (List.mem_of_getElem? (i := 21) rfl)
theorem wm_472 : Cond.classLink RX6 100 "java/lang/IllegalStateException" ∈ wA := wi_wA_18 _ (List.mem_of_getElem? (i := 22) rfl)
theorem wm_473 : Cond.initialized "java/lang/IllegalStateException" ∈ wA := wi_wA_18 _ (List.mem_of_getElem? (i := 23) rfl)
theorem wm_474 : Cond.methodLink RX6 84 yX6_inSlot ∈ wA := wi_wA_18 _ (List.mem_of_getElem? (i := 24) rfl)
theorem wm_475 : Cond.instanceMethod yX6_inSlot ∈ wA := wi_wA_19 _ (List.mem_of_getElem? (i := 0) rfl)
theorem wm_476 : Cond.selects RX6 yX6_inSlot yX6_inSlot ∈ wA := wi_wA_19 _ (List.mem_of_getElem? (i := 1) rfl)
theorem wm_477 : Cond.initialized RX6 ∈ wA := wi_wA_19 _ (List.mem_of_getElem? (i := 2) rfl)
theorem wm_478 : Cond.methodLink RX6 88 yX2_canStand ∈ wA := wi_wA_19 _ (List.mem_of_getElem? (i := 3) rfl)
theorem wm_479 : Cond.static yX2_canStand ∈ wA := wi_wA_19 _ (List.mem_of_getElem? (i := 4) rfl)
theorem wm_480 : Cond.methodLink RX6 96 yX0_count ∈ wA := wi_wA_19 _ (List.mem_of_getElem? (i := 5) rfl)
theorem wm_481 : Cond.methodLink RX6 105 yX2_of ∈ wA := wi_wA_19 _ (List.mem_of_getElem? (i := 6) rfl)
theorem wm_482 : Cond.methodLink RX6 109 yX0_add ∈ wA := wi_wA_19 _ (List.mem_of_getElem? (i := 7) rfl)
theorem wm_483 : Cond.code yX6_gate cX6_gate 7 (some .int) ∈ wA := wi_wA_19 _ (List.mem_of_getElem? (i := 8) rfl)
theorem wm_484 : Cond.code yX6_size cX6_size 3 (some .int) ∈ wA := wi_wA_19 _ (List.mem_of_getElem? (i := 9) rfl)
theorem wm_485 : Cond.code yX6_gateAt cX6_gateAt 4 (some .int) ∈ wA := wi_wA_19 _ (List.mem_of_getElem? (i := 10) rfl)
theorem wm_486 : Cond.methodLink RX6 113 yX0_at ∈ wA := wi_wA_19 _ (List.mem_of_getElem? (i := 11) rfl)
theorem wm_487 : Cond.code yX6_clear cX6_clear 3 none ∈ wA := wi_wA_19 _ (List.mem_of_getElem? (i := 12) rfl)
theorem wm_488 : Cond.methodLink RX6 121 yX0_addAll ∈ wA := wi_wA_19 _ (List.mem_of_getElem? (i := 13) rfl)
theorem wm_489 : Cond.code yX6_append cX6_append 5 (some .int) ∈ wA := wi_wA_19 _ (List.mem_of_getElem? (i := 14) rfl)
theorem wm_490 : Cond.methodLink RX6 125 yX0_countInverted ∈ wA := wi_wA_19 _ (List.mem_of_getElem? (i := 15) rfl)
theorem wm_491 : Cond.instanceMethod yX0_countInverted ∈ wA := wi_wA_19 _ (List.mem_of_getElem? (i := 16) rfl)
theorem wm_492 : Cond.selects RX0 yX0_countInverted yX0_countInverted ∈ wA := wi_wA_19 _ (List.mem_of_getElem? (i := 17) rfl)
theorem wm_493 : Cond.methodLink RX6 128 yX0_addInverted ∈ wA := wi_wA_19 _ (List.mem_of_getElem? (i := 18) rfl)
theorem wm_494 : Cond.instanceMethod yX0_addInverted ∈ wA := wi_wA_19 _ (List.mem_of_getElem? (i := 19) rfl)
theorem wm_495 : Cond.selects RX0 yX0_addInverted yX0_addInverted ∈ wA := wi_wA_19 _ (List.mem_of_getElem? (i := 20) rfl)
theorem wm_496 : Cond.methodLink RX6 131 yX0_become ∈ wA := wi_wA_19 _ (List.mem_of_getElem? (i := 21) rfl)
theorem wm_497 : Cond.instanceMethod yX0_become ∈ wA := wi_wA_19 _ (List.mem_of_getElem? (i := 22) rfl)
theorem wm_498 : Cond.selects RX0 yX0_become yX0_become ∈ wA := wi_wA_19 _ (List.mem_of_getElem? (i := 23) rfl)
theorem wm_499 : Cond.code yX6_inverse cX6_inverse 3 (some .int) ∈ wA := wi_wA_19 _ (List.mem_of_getElem? (i := 24) rfl)
theorem wm_500 : Cond.methodLink RX6 134 yX0_countExpanded ∈ wA := wi_wA_20 _ (List.mem_of_getElem? (i := 0) rfl)
theorem wm_501 : Cond.instanceMethod yX0_countExpanded ∈ wA := wi_wA_20 _ (List.mem_of_getElem? (i := 1) rfl)
theorem wm_502 : Cond.selects RX0 yX0_countExpanded yX0_countExpanded ∈ wA := wi_wA_20 _ (List.mem_of_getElem? (i := 2) rfl)
theorem wm_503 : Cond.methodLink RX6 137 yX0_addExpanded ∈ wA := wi_wA_20 _ (List.mem_of_getElem? (i := 3) rfl)
theorem wm_504 : Cond.instanceMethod yX0_addExpanded ∈ wA := wi_wA_20 _ (List.mem_of_getElem? (i := 4) rfl)
theorem wm_505 : Cond.selects RX0 yX0_addExpanded yX0_addExpanded ∈ wA := wi_wA_20 _ (List.mem_of_getElem? (i := 5) rfl)
theorem wm_506 : Cond.code yX6_expand cX6_expand 3 (some .int) ∈ wA := wi_wA_20 _ (List.mem_of_getElem? (i := 6) rfl)
theorem wm_507 : Cond.methodLink RX6 140 yX0_rewriteAll ∈ wA := wi_wA_20 _ (List.mem_of_getElem? (i := 7) rfl)
theorem wm_508 : Cond.instanceMethod yX0_rewriteAll ∈ wA := wi_wA_20 _ (List.mem_of_getElem? (i := 8) rfl)
theorem wm_509 : Cond.selects RX0 yX0_rewriteAll yX0_rewriteAll ∈ wA := wi_wA_20 _ (List.mem_of_getElem? (i := 9) rfl)
theorem wm_510 : Cond.code yX6_optimise cX6_optimise 3 (some .int) ∈ wA := wi_wA_20 _ (List.mem_of_getElem? (i := 10) rfl)
theorem wm_511 : Cond.methodLink RX6 260 Lib.Math.max.name ∈ wA := wi_wA_20 _ (List.mem_of_getElem? (i := 11) rfl)
theorem wm_512 : Cond.methodLink RX6 186 yX0_countKind ∈ wA := wi_wA_20 _ (List.mem_of_getElem? (i := 12) rfl)
theorem wm_513 : Cond.methodLink RX6 189 yX1_run ∈ wA := wi_wA_20 _ (List.mem_of_getElem? (i := 13) rfl)
theorem wm_514 : Cond.instanceMethod yX1_run ∈ wA := wi_wA_20 _ (List.mem_of_getElem? (i := 14) rfl)
theorem wm_515 : Cond.selects RX1 yX1_run yX1_run ∈ wA := wi_wA_20 _ (List.mem_of_getElem? (i := 15) rfl)
theorem wm_516 : Cond.code yX6_runBoth cX6_runBoth 5 none ∈ wA := wi_wA_20 _ (List.mem_of_getElem? (i := 16) rfl)
theorem wm_517 : Cond.methodLink RX6 178 yX6_runBoth ∈ wA := wi_wA_20 _ (List.mem_of_getElem? (i := 17) rfl)
theorem wm_518 : Cond.instanceMethod yX6_runBoth ∈ wA := wi_wA_20 _ (List.mem_of_getElem? (i := 18) rfl)
theorem wm_519 : Cond.selects RX6 yX6_runBoth yX6_runBoth ∈ wA := wi_wA_20 _ (List.mem_of_getElem? (i := 19) rfl)
theorem wm_520 : Cond.methodLink RX6 266 yX1_isTurned ∈ wA := wi_wA_20 _ (List.mem_of_getElem? (i := 20) rfl)
theorem wm_521 : Cond.instanceMethod yX1_isTurned ∈ wA := wi_wA_20 _ (List.mem_of_getElem? (i := 21) rfl)
theorem wm_522 : Cond.selects RX1 yX1_isTurned yX1_isTurned ∈ wA := wi_wA_20 _ (List.mem_of_getElem? (i := 22) rfl)
theorem wm_523 : Cond.code yX6_firstTurn cX6_firstTurn 4 (some .int) ∈ wA := wi_wA_20 _ (List.mem_of_getElem? (i := 23) rfl)
theorem wm_524 : Cond.methodLink RX6 143 yX0_isOnOneWire ∈ wA := wi_wA_20 _ (List.mem_of_getElem? (i := 24) rfl)
theorem wm_525 : Cond.instanceMethod yX0_isOnOneWire ∈ wA := wi_wA_21 _ (List.mem_of_getElem? (i := 0) rfl)
theorem wm_526 : Cond.selects RX0 yX0_isOnOneWire yX0_isOnOneWire ∈ wA := wi_wA_21 _ (List.mem_of_getElem? (i := 1) rfl)
theorem wm_527 : Cond.methodLink RX6 149 yX3_take ∈ wA := wi_wA_21 _ (List.mem_of_getElem? (i := 2) rfl)
theorem wm_528 : Cond.instanceMethod yX3_take ∈ wA := wi_wA_21 _ (List.mem_of_getElem? (i := 3) rfl)
theorem wm_529 : Cond.selects RX3 yX3_take yX3_take ∈ wA := wi_wA_21 _ (List.mem_of_getElem? (i := 4) rfl)
theorem wm_530 : Cond.methodLink RX6 152 yX3_countGates ∈ wA := wi_wA_21 _ (List.mem_of_getElem? (i := 5) rfl)
theorem wm_531 : Cond.instanceMethod yX3_countGates ∈ wA := wi_wA_21 _ (List.mem_of_getElem? (i := 6) rfl)
theorem wm_532 : Cond.selects RX3 yX3_countGates yX3_countGates ∈ wA := wi_wA_21 _ (List.mem_of_getElem? (i := 7) rfl)
theorem wm_533 : Cond.methodLink RX6 157 yX2_a ∈ wA := wi_wA_21 _ (List.mem_of_getElem? (i := 8) rfl)
theorem wm_534 : Cond.methodLink RX6 160 yX3_addTo ∈ wA := wi_wA_21 _ (List.mem_of_getElem? (i := 9) rfl)
theorem wm_535 : Cond.instanceMethod yX3_addTo ∈ wA := wi_wA_21 _ (List.mem_of_getElem? (i := 10) rfl)
theorem wm_536 : Cond.selects RX3 yX3_addTo yX3_addTo ∈ wA := wi_wA_21 _ (List.mem_of_getElem? (i := 11) rfl)
theorem wm_537 : Cond.methodLink RX6 164 yX6_firstTurn ∈ wA := wi_wA_21 _ (List.mem_of_getElem? (i := 12) rfl)
theorem wm_538 : Cond.instanceMethod yX6_firstTurn ∈ wA := wi_wA_21 _ (List.mem_of_getElem? (i := 13) rfl)
theorem wm_539 : Cond.selects RX6 yX6_firstTurn yX6_firstTurn ∈ wA := wi_wA_21 _ (List.mem_of_getElem? (i := 14) rfl)
theorem wm_540 : Cond.methodLink RX6 168 yX3_countT ∈ wA := wi_wA_21 _ (List.mem_of_getElem? (i := 15) rfl)
theorem wm_541 : Cond.instanceMethod yX3_countT ∈ wA := wi_wA_21 _ (List.mem_of_getElem? (i := 16) rfl)
theorem wm_542 : Cond.selects RX3 yX3_countT yX3_countT ∈ wA := wi_wA_21 _ (List.mem_of_getElem? (i := 17) rfl)
theorem wm_543 : Cond.code yX6_least cX6_least 3 (some .int) ∈ wA := wi_wA_21 _ (List.mem_of_getElem? (i := 18) rfl)
theorem wm_544 : Cond.code yX6_basisStates cX6_basisStates 1 (some .int) ∈ wA := wi_wA_21 _ (List.mem_of_getElem? (i := 19) rfl)
theorem wm_545 : Cond.methodLink RX6 175 yX6_basisStates ∈ wA := wi_wA_21 _ (List.mem_of_getElem? (i := 20) rfl)
theorem wm_546 : Cond.instanceMethod yX6_basisStates ∈ wA := wi_wA_21 _ (List.mem_of_getElem? (i := 21) rfl)
theorem wm_547 : Cond.selects RX6 yX6_basisStates yX6_basisStates ∈ wA := wi_wA_21 _ (List.mem_of_getElem? (i := 22) rfl)
theorem wm_548 : Cond.code yX6_isTurned cX6_isTurned 5 (some .boolean) ∈ wA := wi_wA_21 _ (List.mem_of_getElem? (i := 23) rfl)
theorem wm_549 : Cond.methodLink RX6 171 yX6_isTurned ∈ wA := wi_wA_21 _ (List.mem_of_getElem? (i := 24) rfl)
theorem wm_550 : Cond.instanceMethod yX6_isTurned ∈ wA := wi_wA_22 _ (List.mem_of_getElem? (i := 0) rfl)
theorem wm_551 : Cond.selects RX6 yX6_isTurned yX6_isTurned ∈ wA := wi_wA_22 _ (List.mem_of_getElem? (i := 1) rfl)
theorem wm_552 : Cond.code yX6_equal cX6_equal 6 (some .int) ∈ wA := wi_wA_22 _ (List.mem_of_getElem? (i := 2) rfl)
theorem wm_553 : Cond.code yX6_phase cX6_phase 1 (some .int) ∈ wA := wi_wA_22 _ (List.mem_of_getElem? (i := 3) rfl)
theorem wm_554 : Cond.methodLink RX6 182 yX1_firstDifference ∈ wA := wi_wA_22 _ (List.mem_of_getElem? (i := 4) rfl)
theorem wm_555 : Cond.instanceMethod yX1_firstDifference ∈ wA := wi_wA_22 _ (List.mem_of_getElem? (i := 5) rfl)
theorem wm_556 : Cond.selects RX1 yX1_firstDifference yX1_firstDifference ∈ wA := wi_wA_22 _ (List.mem_of_getElem? (i := 6) rfl)
theorem wm_557 : Cond.code yX6_differ cX6_differ 7 (some .int) ∈ wA := wi_wA_22 _ (List.mem_of_getElem? (i := 7) rfl)
theorem wm_558 : Cond.methodLink RX6 193 yX1_lower ∈ wA := wi_wA_22 _ (List.mem_of_getElem? (i := 8) rfl)
theorem wm_559 : Cond.instanceMethod yX1_lower ∈ wA := wi_wA_22 _ (List.mem_of_getElem? (i := 9) rfl)
theorem wm_560 : Cond.selects RX1 yX1_lower yX1_lower ∈ wA := wi_wA_22 _ (List.mem_of_getElem? (i := 10) rfl)
theorem wm_561 : Cond.methodLink RX6 196 yX1_exponent ∈ wA := wi_wA_22 _ (List.mem_of_getElem? (i := 11) rfl)
theorem wm_562 : Cond.instanceMethod yX1_exponent ∈ wA := wi_wA_22 _ (List.mem_of_getElem? (i := 12) rfl)
theorem wm_563 : Cond.selects RX1 yX1_exponent yX1_exponent ∈ wA := wi_wA_22 _ (List.mem_of_getElem? (i := 13) rfl)
theorem wm_564 : Cond.code yX6_state cX6_state 3 (some .int) ∈ wA := wi_wA_22 _ (List.mem_of_getElem? (i := 14) rfl)
theorem wm_565 : Cond.code yX6_amplitude cX6_amplitude 3 (some .long) ∈ wA := wi_wA_22 _ (List.mem_of_getElem? (i := 15) rfl)
theorem wm_566 : Cond.classLink RX6 201 "java/lang/IndexOutOfBoundsException" ∈ wA := wi_wA_22 _ (List.mem_of_getElem? (i := 16) rfl)
theorem wm_567 : Cond.initialized "java/lang/IndexOutOfBoundsException" ∈ wA := wi_wA_22 _ (List.mem_of_getElem? (i := 17) rfl)
theorem wm_568 : Cond.methodLink RX6 206 yX1_part ∈ wA := wi_wA_22 _ (List.mem_of_getElem? (i := 18) rfl)
theorem wm_569 : Cond.code yX6_scale cX6_scale 1 (some .int) ∈ wA := wi_wA_22 _ (List.mem_of_getElem? (i := 19) rfl)
theorem wm_570 : Cond.code yX6_isWire cX6_isWire 2 (some .boolean) ∈ wA := wi_wA_22 _ (List.mem_of_getElem? (i := 20) rfl)
theorem wm_571 : Cond.code yX6_weight cX6_weight 4 (some .long) ∈ wA := wi_wA_22 _ (List.mem_of_getElem? (i := 21) rfl)
theorem wm_572 : Cond.methodLink RX6 210 yX6_isWire ∈ wA := wi_wA_22 _ (List.mem_of_getElem? (i := 22) rfl)
theorem wm_573 : Cond.instanceMethod yX6_isWire ∈ wA := wi_wA_22 _ (List.mem_of_getElem? (i := 23) rfl)
theorem wm_574 : Cond.selects RX6 yX6_isWire yX6_isWire ∈ wA := wi_wA_22 _ (List.mem_of_getElem? (i := 24) rfl)
theorem wm_575 : Cond.methodLink RX6 216 yX1_weightWhole ∈ wA := wi_wA_23 _ (List.mem_of_getElem? (i := 0) rfl)
theorem wm_576 : Cond.instanceMethod yX1_weightWhole ∈ wA := wi_wA_23 _ (List.mem_of_getElem? (i := 1) rfl)
theorem wm_577 : Cond.selects RX1 yX1_weightWhole yX1_weightWhole ∈ wA := wi_wA_23 _ (List.mem_of_getElem? (i := 2) rfl)
theorem wm_578 : Cond.methodLink RX6 219 yX1_weightRoot ∈ wA := wi_wA_23 _ (List.mem_of_getElem? (i := 3) rfl)
theorem wm_579 : Cond.instanceMethod yX1_weightRoot ∈ wA := wi_wA_23 _ (List.mem_of_getElem? (i := 4) rfl)
theorem wm_580 : Cond.selects RX1 yX1_weightRoot yX1_weightRoot ∈ wA := wi_wA_23 _ (List.mem_of_getElem? (i := 5) rfl)
theorem wm_581 : Cond.methodLink RX6 224 yX1_hasAny ∈ wA := wi_wA_23 _ (List.mem_of_getElem? (i := 6) rfl)
theorem wm_582 : Cond.instanceMethod yX1_hasAny ∈ wA := wi_wA_23 _ (List.mem_of_getElem? (i := 7) rfl)
theorem wm_583 : Cond.selects RX1 yX1_hasAny yX1_hasAny ∈ wA := wi_wA_23 _ (List.mem_of_getElem? (i := 8) rfl)
theorem wm_584 : Cond.methodLink RX6 228 yX1_keepOnly ∈ wA := wi_wA_23 _ (List.mem_of_getElem? (i := 9) rfl)
theorem wm_585 : Cond.instanceMethod yX1_keepOnly ∈ wA := wi_wA_23 _ (List.mem_of_getElem? (i := 10) rfl)
theorem wm_586 : Cond.selects RX1 yX1_keepOnly yX1_keepOnly ∈ wA := wi_wA_23 _ (List.mem_of_getElem? (i := 11) rfl)
theorem wm_587 : Cond.code yX6_measure cX6_measure 3 (some .boolean) ∈ wA := wi_wA_23 _ (List.mem_of_getElem? (i := 12) rfl)
theorem wm_588 : Cond.methodLink RX6 236 yX4_begin ∈ wA := wi_wA_23 _ (List.mem_of_getElem? (i := 13) rfl)
theorem wm_589 : Cond.instanceMethod yX4_begin ∈ wA := wi_wA_23 _ (List.mem_of_getElem? (i := 14) rfl)
theorem wm_590 : Cond.selects RX4 yX4_begin yX4_begin ∈ wA := wi_wA_23 _ (List.mem_of_getElem? (i := 15) rfl)
theorem wm_591 : Cond.methodLink RX6 239 yX4_pass ∈ wA := wi_wA_23 _ (List.mem_of_getElem? (i := 16) rfl)
theorem wm_592 : Cond.instanceMethod yX4_pass ∈ wA := wi_wA_23 _ (List.mem_of_getElem? (i := 17) rfl)
theorem wm_593 : Cond.selects RX4 yX4_pass yX4_pass ∈ wA := wi_wA_23 _ (List.mem_of_getElem? (i := 18) rfl)
theorem wm_594 : Cond.methodLink RX6 242 yX4_digits ∈ wA := wi_wA_23 _ (List.mem_of_getElem? (i := 19) rfl)
theorem wm_595 : Cond.instanceMethod yX4_digits ∈ wA := wi_wA_23 _ (List.mem_of_getElem? (i := 20) rfl)
theorem wm_596 : Cond.selects RX4 yX4_digits yX4_digits ∈ wA := wi_wA_23 _ (List.mem_of_getElem? (i := 21) rfl)
theorem wm_597 : Cond.code yX6_row cX6_row 5 (some .int) ∈ wA := wi_wA_23 _ (List.mem_of_getElem? (i := 22) rfl)
theorem wm_598 : Cond.code yX6_type cX6_type 4 (some .int) ∈ wA := wi_wA_23 _ (List.mem_of_getElem? (i := 23) rfl)
theorem wm_599 : Cond.methodLink RX6 245 yX5_addBytes ∈ wA := wi_wA_23 _ (List.mem_of_getElem? (i := 24) rfl)
theorem wm_600 : Cond.instanceMethod yX5_addBytes ∈ wA := wi_wA_24 _ (List.mem_of_getElem? (i := 0) rfl)
theorem wm_601 : Cond.selects RX5 yX5_addBytes yX5_addBytes ∈ wA := wi_wA_24 _ (List.mem_of_getElem? (i := 1) rfl)
theorem wm_602 : Cond.methodLink RX6 249 yX5_count ∈ wA := wi_wA_24 _ (List.mem_of_getElem? (i := 2) rfl)
theorem wm_603 : Cond.instanceMethod yX5_count ∈ wA := wi_wA_24 _ (List.mem_of_getElem? (i := 3) rfl)
theorem wm_604 : Cond.selects RX5 yX5_count yX5_count ∈ wA := wi_wA_24 _ (List.mem_of_getElem? (i := 4) rfl)
theorem wm_605 : Cond.methodLink RX6 250 yX5_write ∈ wA := wi_wA_24 _ (List.mem_of_getElem? (i := 5) rfl)
theorem wm_606 : Cond.instanceMethod yX5_write ∈ wA := wi_wA_24 _ (List.mem_of_getElem? (i := 6) rfl)
theorem wm_607 : Cond.selects RX5 yX5_write yX5_write ∈ wA := wi_wA_24 _ (List.mem_of_getElem? (i := 7) rfl)
theorem wm_608 : Cond.code yX6_print cX6_print 3 (some .int) ∈ wA := wi_wA_24 _ (List.mem_of_getElem? (i := 8) rfl)
theorem wm_609 : Cond.code yX6_character cX6_character 2 (some .int) ∈ wA := wi_wA_24 _ (List.mem_of_getElem? (i := 9) rfl)
theorem wm_610 : Cond.methodLink RX6 253 yX5_at ∈ wA := wi_wA_24 _ (List.mem_of_getElem? (i := 10) rfl)
theorem wm_611 : Cond.methodLink RX6 254 yX5_parse ∈ wA := wi_wA_24 _ (List.mem_of_getElem? (i := 11) rfl)
theorem wm_612 : Cond.instanceMethod yX5_parse ∈ wA := wi_wA_24 _ (List.mem_of_getElem? (i := 12) rfl)
theorem wm_613 : Cond.selects RX5 yX5_parse yX5_parse ∈ wA := wi_wA_24 _ (List.mem_of_getElem? (i := 13) rfl)
theorem wm_614 : Cond.code yX6_read cX6_read 4 (some .int) ∈ wA := wi_wA_24 _ (List.mem_of_getElem? (i := 14) rfl)
theorem wm_615 : Cond.code yX6_place cX6_place 1 (some .int) ∈ wA := wi_wA_24 _ (List.mem_of_getElem? (i := 15) rfl)
theorem wm_616 : Cond.code yX7_init cX7_init 1 none ∈ wA := wi_wA_24 _ (List.mem_of_getElem? (i := 16) rfl)
theorem wm_617 : Cond.methodLink RX7 1 objectInit ∈ wA := wi_wA_24 _ (List.mem_of_getElem? (i := 17) rfl)
theorem wm_618 : Cond.fieldLink RX7 7 "RingCircuitsModel" "wires" "I" ∈ wA := wi_wA_24 _ (List.mem_of_getElem? (i := 18) rfl)
theorem wm_619 : Cond.fieldLink RX7 13 "RingCircuitsModel" "size" "[I" ∈ wA := wi_wA_24 _ (List.mem_of_getElem? (i := 19) rfl)
theorem wm_620 : Cond.fieldLink RX7 17 "RingCircuitsModel" "kind" "[I" ∈ wA := wi_wA_24 _ (List.mem_of_getElem? (i := 20) rfl)
theorem wm_621 : Cond.fieldLink RX7 20 "RingCircuitsModel" "one" "[I" ∈ wA := wi_wA_24 _ (List.mem_of_getElem? (i := 21) rfl)
theorem wm_622 : Cond.fieldLink RX7 23 "RingCircuitsModel" "two" "[I" ∈ wA := wi_wA_24 _ (List.mem_of_getElem? (i := 22) rfl)
theorem wm_623 : Cond.fieldLink RX7 26 "RingCircuitsModel" "three" "[I" ∈ wA := wi_wA_24 _ (List.mem_of_getElem? (i := 23) rfl)
theorem wm_624 : Cond.fieldLink RX7 29 "RingCircuitsModel" "state" "[J" ∈ wA := wi_wA_24 _ (List.mem_of_getElem? (i := 24) rfl)
theorem wm_625 : Cond.fieldLink RX7 33 "RingCircuitsModel" "first" "[J" ∈ wA := wi_wA_25 _ (List.mem_of_getElem? (i := 0) rfl)
theorem wm_626 : Cond.fieldLink RX7 36 "RingCircuitsModel" "other" "[J" ∈ wA := wi_wA_25 _ (List.mem_of_getElem? (i := 1) rfl)
theorem wm_627 : Cond.fieldLink RX7 39 "RingCircuitsModel" "text" "[I" ∈ wA := wi_wA_25 _ (List.mem_of_getElem? (i := 2) rfl)
theorem wm_628 : Cond.fieldLink RX7 42 "RingCircuitsModel" "place" "I" ∈ wA := wi_wA_25 _ (List.mem_of_getElem? (i := 3) rfl)
theorem wm_629 : Cond.fieldLink RX7 45 "RingCircuitsModel" "round" "[I" ∈ wA := wi_wA_25 _ (List.mem_of_getElem? (i := 4) rfl)
theorem wm_630 : Cond.fieldLink RX7 48 "RingCircuitsModel" "foundX" "[I" ∈ wA := wi_wA_25 _ (List.mem_of_getElem? (i := 5) rfl)
theorem wm_631 : Cond.fieldLink RX7 51 "RingCircuitsModel" "foundZ" "[I" ∈ wA := wi_wA_25 _ (List.mem_of_getElem? (i := 6) rfl)
theorem wm_632 : Cond.fieldLink RX7 54 "RingCircuitsModel" "from" "[I" ∈ wA := wi_wA_25 _ (List.mem_of_getElem? (i := 7) rfl)
theorem wm_633 : Cond.fieldLink RX7 57 "RingCircuitsModel" "letter" "[I" ∈ wA := wi_wA_25 _ (List.mem_of_getElem? (i := 8) rfl)
theorem wm_634 : Cond.code yX7_thrown cX7_thrown 1 (some .int) ∈ wA := wi_wA_25 _ (List.mem_of_getElem? (i := 9) rfl)
theorem wm_635 : Cond.fieldLink RX7 60 "RingCircuitsModel" "fault" "I" ∈ wA := wi_wA_25 _ (List.mem_of_getElem? (i := 10) rfl)
theorem wm_636 : Cond.code yX7_in cX7_in 6 (some .boolean) ∈ wA := wi_wA_25 _ (List.mem_of_getElem? (i := 11) rfl)
theorem wm_637 : Cond.code yX7_isSlot cX7_isSlot 1 (some .boolean) ∈ wA := wi_wA_25 _ (List.mem_of_getElem? (i := 12) rfl)
theorem wm_638 : Cond.constantLong RX7 63 (2) ∈ wA := wi_wA_25 _ (List.mem_of_getElem? (i := 13) rfl)
theorem wm_639 : Cond.methodLink RX7 65 yX7_in ∈ wA := wi_wA_25 _ (List.mem_of_getElem? (i := 14) rfl)
theorem wm_640 : Cond.static yX7_in ∈ wA := wi_wA_25 _ (List.mem_of_getElem? (i := 15) rfl)
theorem wm_641 : Cond.initialized RX7 ∈ wA := wi_wA_25 _ (List.mem_of_getElem? (i := 16) rfl)
theorem wm_642 : Cond.code yX7_wires cX7_wires 3 none ∈ wA := wi_wA_25 _ (List.mem_of_getElem? (i := 17) rfl)
theorem wm_643 : Cond.constantLong RX7 69 (4) ∈ wA := wi_wA_25 _ (List.mem_of_getElem? (i := 18) rfl)
theorem wm_644 : Cond.fieldLink RX7 71 "RingCircuitsModel" "hasState" "Z" ∈ wA := wi_wA_25 _ (List.mem_of_getElem? (i := 19) rfl)
theorem wm_645 : Cond.fieldLink RX7 75 "RingCircuitsModel" "length" "I" ∈ wA := wi_wA_25 _ (List.mem_of_getElem? (i := 20) rfl)
theorem wm_646 : Cond.code yX7_needs cX7_needs 1 (some .int) ∈ wA := wi_wA_25 _ (List.mem_of_getElem? (i := 21) rfl)
theorem wm_647 : Cond.code yX7_put cX7_put 7 none ∈ wA := wi_wA_25 _ (List.mem_of_getElem? (i := 22) rfl)
theorem wm_648 : Cond.code yX7_isWire cX7_isWire 2 (some .boolean) ∈ wA := wi_wA_25 _ (List.mem_of_getElem? (i := 23) rfl)
theorem wm_649 : Cond.code yX7_isGate cX7_isGate 5 (some .boolean) ∈ wA := wi_wA_25 _ (List.mem_of_getElem? (i := 24) rfl)
theorem wm_650 : Cond.constantLong RX7 78 (9) ∈ wA := wi_wA_26 _ (List.mem_of_getElem? (i := 0) rfl)
theorem wm_651 : Cond.methodLink RX7 80 yX7_isWire ∈ wA := wi_wA_26 _ (List.mem_of_getElem? (i := 1) rfl)
theorem wm_652 : Cond.instanceMethod yX7_isWire ∈ wA := wi_wA_26 _ (List.mem_of_getElem? (i := 2) rfl)
theorem wm_653 : Cond.selects RX7 yX7_isWire yX7_isWire ∈ wA := wi_wA_26 _ (List.mem_of_getElem? (i := 3) rfl)
theorem wm_654 : Cond.methodLink RX7 84 yX7_needs ∈ wA := wi_wA_26 _ (List.mem_of_getElem? (i := 4) rfl)
theorem wm_655 : Cond.static yX7_needs ∈ wA := wi_wA_26 _ (List.mem_of_getElem? (i := 5) rfl)
theorem wm_656 : Cond.methodLink RX7 88 yX7_isSlot ∈ wA := wi_wA_26 _ (List.mem_of_getElem? (i := 6) rfl)
theorem wm_657 : Cond.static yX7_isSlot ∈ wA := wi_wA_26 _ (List.mem_of_getElem? (i := 7) rfl)
theorem wm_658 : Cond.methodLink RX7 91 yX7_isGate ∈ wA := wi_wA_26 _ (List.mem_of_getElem? (i := 8) rfl)
theorem wm_659 : Cond.instanceMethod yX7_isGate ∈ wA := wi_wA_26 _ (List.mem_of_getElem? (i := 9) rfl)
theorem wm_660 : Cond.selects RX7 yX7_isGate yX7_isGate ∈ wA := wi_wA_26 _ (List.mem_of_getElem? (i := 10) rfl)
theorem wm_661 : Cond.methodLink RX7 95 yX7_put ∈ wA := wi_wA_26 _ (List.mem_of_getElem? (i := 11) rfl)
theorem wm_662 : Cond.instanceMethod yX7_put ∈ wA := wi_wA_26 _ (List.mem_of_getElem? (i := 12) rfl)
theorem wm_663 : Cond.selects RX7 yX7_put yX7_put ∈ wA := wi_wA_26 _ (List.mem_of_getElem? (i := 13) rfl)
theorem wm_664 : Cond.code yX7_gate cX7_gate 6 (some .int) ∈ wA := wi_wA_26 _ (List.mem_of_getElem? (i := 14) rfl)
theorem wm_665 : Cond.code yX7_size cX7_size 2 (some .int) ∈ wA := wi_wA_26 _ (List.mem_of_getElem? (i := 15) rfl)
theorem wm_666 : Cond.code yX7_gateAt cX7_gateAt 4 (some .int) ∈ wA := wi_wA_26 _ (List.mem_of_getElem? (i := 16) rfl)
theorem wm_667 : Cond.code yX7_clear cX7_clear 2 none ∈ wA := wi_wA_26 _ (List.mem_of_getElem? (i := 17) rfl)
theorem wm_668 : Cond.code yX7_copyGate cX7_copyGate 3 none ∈ wA := wi_wA_26 _ (List.mem_of_getElem? (i := 18) rfl)
theorem wm_669 : Cond.code yX7_copy cX7_copy 4 none ∈ wA := wi_wA_26 _ (List.mem_of_getElem? (i := 19) rfl)
theorem wm_670 : Cond.methodLink RX7 99 yX7_copyGate ∈ wA := wi_wA_26 _ (List.mem_of_getElem? (i := 20) rfl)
theorem wm_671 : Cond.instanceMethod yX7_copyGate ∈ wA := wi_wA_26 _ (List.mem_of_getElem? (i := 21) rfl)
theorem wm_672 : Cond.selects RX7 yX7_copyGate yX7_copyGate ∈ wA := wi_wA_26 _ (List.mem_of_getElem? (i := 22) rfl)
theorem wm_673 : Cond.code yX7_append cX7_append 5 (some .int) ∈ wA := wi_wA_26 _ (List.mem_of_getElem? (i := 23) rfl)
theorem wm_674 : Cond.code yX7_turnsOf cX7_turnsOf 2 (some .int) ∈ wA := wi_wA_26 _ (List.mem_of_getElem? (i := 24) rfl)
theorem wm_675 : Cond.methodLink RX7 103 yX7_copy ∈ wA := wi_wA_27 _ (List.mem_of_getElem? (i := 0) rfl)
theorem wm_676 : Cond.instanceMethod yX7_copy ∈ wA := wi_wA_27 _ (List.mem_of_getElem? (i := 1) rfl)
theorem wm_677 : Cond.selects RX7 yX7_copy yX7_copy ∈ wA := wi_wA_27 _ (List.mem_of_getElem? (i := 2) rfl)
theorem wm_678 : Cond.code yX7_inverse cX7_inverse 5 (some .int) ∈ wA := wi_wA_27 _ (List.mem_of_getElem? (i := 3) rfl)
theorem wm_679 : Cond.code yX7_putBack cX7_putBack 2 none ∈ wA := wi_wA_27 _ (List.mem_of_getElem? (i := 4) rfl)
theorem wm_680 : Cond.code yX7_expandOne cX7_expandOne 4 none ∈ wA := wi_wA_27 _ (List.mem_of_getElem? (i := 5) rfl)
theorem wm_681 : Cond.methodLink RX7 106 yX7_putBack ∈ wA := wi_wA_27 _ (List.mem_of_getElem? (i := 6) rfl)
theorem wm_682 : Cond.instanceMethod yX7_putBack ∈ wA := wi_wA_27 _ (List.mem_of_getElem? (i := 7) rfl)
theorem wm_683 : Cond.selects RX7 yX7_putBack yX7_putBack ∈ wA := wi_wA_27 _ (List.mem_of_getElem? (i := 8) rfl)
theorem wm_684 : Cond.methodLink RX7 110 yX7_expandOne ∈ wA := wi_wA_27 _ (List.mem_of_getElem? (i := 9) rfl)
theorem wm_685 : Cond.instanceMethod yX7_expandOne ∈ wA := wi_wA_27 _ (List.mem_of_getElem? (i := 10) rfl)
theorem wm_686 : Cond.selects RX7 yX7_expandOne yX7_expandOne ∈ wA := wi_wA_27 _ (List.mem_of_getElem? (i := 11) rfl)
theorem wm_687 : Cond.code yX7_expand cX7_expand 5 (some .int) ∈ wA := wi_wA_27 _ (List.mem_of_getElem? (i := 12) rfl)
theorem wm_688 : Cond.code yX7_samePair cX7_samePair 3 (some .boolean) ∈ wA := wi_wA_27 _ (List.mem_of_getElem? (i := 13) rfl)
theorem wm_689 : Cond.code yX7_cancels cX7_cancels 3 (some .boolean) ∈ wA := wi_wA_27 _ (List.mem_of_getElem? (i := 14) rfl)
theorem wm_690 : Cond.methodLink RX7 114 yX7_samePair ∈ wA := wi_wA_27 _ (List.mem_of_getElem? (i := 15) rfl)
theorem wm_691 : Cond.instanceMethod yX7_samePair ∈ wA := wi_wA_27 _ (List.mem_of_getElem? (i := 16) rfl)
theorem wm_692 : Cond.selects RX7 yX7_samePair yX7_samePair ∈ wA := wi_wA_27 _ (List.mem_of_getElem? (i := 17) rfl)
theorem wm_693 : Cond.code yX7_together cX7_together 6 (some .int) ∈ wA := wi_wA_27 _ (List.mem_of_getElem? (i := 18) rfl)
theorem wm_694 : Cond.methodLink RX7 118 yX7_turnsOf ∈ wA := wi_wA_27 _ (List.mem_of_getElem? (i := 19) rfl)
theorem wm_695 : Cond.instanceMethod yX7_turnsOf ∈ wA := wi_wA_27 _ (List.mem_of_getElem? (i := 20) rfl)
theorem wm_696 : Cond.selects RX7 yX7_turnsOf yX7_turnsOf ∈ wA := wi_wA_27 _ (List.mem_of_getElem? (i := 21) rfl)
theorem wm_697 : Cond.code yX7_has cX7_has 3 (some .boolean) ∈ wA := wi_wA_27 _ (List.mem_of_getElem? (i := 22) rfl)
theorem wm_698 : Cond.code yX7_shares cX7_shares 3 (some .boolean) ∈ wA := wi_wA_27 _ (List.mem_of_getElem? (i := 23) rfl)
theorem wm_699 : Cond.methodLink RX7 121 yX7_has ∈ wA := wi_wA_27 _ (List.mem_of_getElem? (i := 24) rfl)
theorem wm_700 : Cond.instanceMethod yX7_has ∈ wA := wi_wA_28 _ (List.mem_of_getElem? (i := 0) rfl)
theorem wm_701 : Cond.selects RX7 yX7_has yX7_has ∈ wA := wi_wA_28 _ (List.mem_of_getElem? (i := 1) rfl)
theorem wm_702 : Cond.code yX7_isStraight cX7_isStraight 2 (some .boolean) ∈ wA := wi_wA_28 _ (List.mem_of_getElem? (i := 2) rfl)
theorem wm_703 : Cond.code yX7_goesBy cX7_goesBy 7 (some .boolean) ∈ wA := wi_wA_28 _ (List.mem_of_getElem? (i := 3) rfl)
theorem wm_704 : Cond.methodLink RX7 124 yX7_shares ∈ wA := wi_wA_28 _ (List.mem_of_getElem? (i := 4) rfl)
theorem wm_705 : Cond.instanceMethod yX7_shares ∈ wA := wi_wA_28 _ (List.mem_of_getElem? (i := 5) rfl)
theorem wm_706 : Cond.selects RX7 yX7_shares yX7_shares ∈ wA := wi_wA_28 _ (List.mem_of_getElem? (i := 6) rfl)
theorem wm_707 : Cond.methodLink RX7 127 yX7_isStraight ∈ wA := wi_wA_28 _ (List.mem_of_getElem? (i := 7) rfl)
theorem wm_708 : Cond.instanceMethod yX7_isStraight ∈ wA := wi_wA_28 _ (List.mem_of_getElem? (i := 8) rfl)
theorem wm_709 : Cond.selects RX7 yX7_isStraight yX7_isStraight ∈ wA := wi_wA_28 _ (List.mem_of_getElem? (i := 9) rfl)
theorem wm_710 : Cond.methodLink RX7 130 yX7_goesBy ∈ wA := wi_wA_28 _ (List.mem_of_getElem? (i := 10) rfl)
theorem wm_711 : Cond.instanceMethod yX7_goesBy ∈ wA := wi_wA_28 _ (List.mem_of_getElem? (i := 11) rfl)
theorem wm_712 : Cond.selects RX7 yX7_goesBy yX7_goesBy ∈ wA := wi_wA_28 _ (List.mem_of_getElem? (i := 12) rfl)
theorem wm_713 : Cond.code yX7_passes cX7_passes 3 (some .boolean) ∈ wA := wi_wA_28 _ (List.mem_of_getElem? (i := 13) rfl)
theorem wm_714 : Cond.code yX7_remove cX7_remove 5 none ∈ wA := wi_wA_28 _ (List.mem_of_getElem? (i := 14) rfl)
theorem wm_715 : Cond.methodLink RX7 133 yX7_together ∈ wA := wi_wA_28 _ (List.mem_of_getElem? (i := 15) rfl)
theorem wm_716 : Cond.instanceMethod yX7_together ∈ wA := wi_wA_28 _ (List.mem_of_getElem? (i := 16) rfl)
theorem wm_717 : Cond.selects RX7 yX7_together yX7_together ∈ wA := wi_wA_28 _ (List.mem_of_getElem? (i := 17) rfl)
theorem wm_718 : Cond.methodLink RX7 137 yX7_cancels ∈ wA := wi_wA_28 _ (List.mem_of_getElem? (i := 18) rfl)
theorem wm_719 : Cond.instanceMethod yX7_cancels ∈ wA := wi_wA_28 _ (List.mem_of_getElem? (i := 19) rfl)
theorem wm_720 : Cond.selects RX7 yX7_cancels yX7_cancels ∈ wA := wi_wA_28 _ (List.mem_of_getElem? (i := 20) rfl)
theorem wm_721 : Cond.methodLink RX7 140 yX7_remove ∈ wA := wi_wA_28 _ (List.mem_of_getElem? (i := 21) rfl)
theorem wm_722 : Cond.instanceMethod yX7_remove ∈ wA := wi_wA_28 _ (List.mem_of_getElem? (i := 22) rfl)
theorem wm_723 : Cond.selects RX7 yX7_remove yX7_remove ∈ wA := wi_wA_28 _ (List.mem_of_getElem? (i := 23) rfl)
theorem wm_724 : Cond.methodLink RX7 143 yX7_passes ∈ wA := wi_wA_28 _ (List.mem_of_getElem? (i := 24) rfl)
theorem wm_725 : Cond.instanceMethod yX7_passes ∈ wA := wi_wA_29 _ (List.mem_of_getElem? (i := 0) rfl)
theorem wm_726 : Cond.selects RX7 yX7_passes yX7_passes ∈ wA := wi_wA_29 _ (List.mem_of_getElem? (i := 1) rfl)
theorem wm_727 : Cond.code yX7_meetOnce cX7_meetOnce 8 (some .boolean) ∈ wA := wi_wA_29 _ (List.mem_of_getElem? (i := 2) rfl)
theorem wm_728 : Cond.methodLink RX7 146 yX7_meetOnce ∈ wA := wi_wA_29 _ (List.mem_of_getElem? (i := 3) rfl)
theorem wm_729 : Cond.instanceMethod yX7_meetOnce ∈ wA := wi_wA_29 _ (List.mem_of_getElem? (i := 4) rfl)
theorem wm_730 : Cond.selects RX7 yX7_meetOnce yX7_meetOnce ∈ wA := wi_wA_29 _ (List.mem_of_getElem? (i := 5) rfl)
theorem wm_731 : Cond.code yX7_optimise cX7_optimise 3 (some .int) ∈ wA := wi_wA_29 _ (List.mem_of_getElem? (i := 6) rfl)
theorem wm_732 : Cond.code yX7_basis cX7_basis 1 (some .int) ∈ wA := wi_wA_29 _ (List.mem_of_getElem? (i := 7) rfl)
theorem wm_733 : Cond.code yX7_turn cX7_turn 6 none ∈ wA := wi_wA_29 _ (List.mem_of_getElem? (i := 8) rfl)
theorem wm_734 : Cond.code yX7_grow cX7_grow 10 none ∈ wA := wi_wA_29 _ (List.mem_of_getElem? (i := 9) rfl)
theorem wm_735 : Cond.code yX7_change cX7_change 6 none ∈ wA := wi_wA_29 _ (List.mem_of_getElem? (i := 10) rfl)
theorem wm_736 : Cond.code yX7_mix cX7_mix 8 none ∈ wA := wi_wA_29 _ (List.mem_of_getElem? (i := 11) rfl)
theorem wm_737 : Cond.code yX7_bit cX7_bit 2 (some .boolean) ∈ wA := wi_wA_29 _ (List.mem_of_getElem? (i := 12) rfl)
theorem wm_738 : Cond.methodLink RX7 149 yX7_basis ∈ wA := wi_wA_29 _ (List.mem_of_getElem? (i := 13) rfl)
theorem wm_739 : Cond.instanceMethod yX7_basis ∈ wA := wi_wA_29 _ (List.mem_of_getElem? (i := 14) rfl)
theorem wm_740 : Cond.selects RX7 yX7_basis yX7_basis ∈ wA := wi_wA_29 _ (List.mem_of_getElem? (i := 15) rfl)
theorem wm_741 : Cond.methodLink RX7 153 yX7_bit ∈ wA := wi_wA_29 _ (List.mem_of_getElem? (i := 16) rfl)
theorem wm_742 : Cond.static yX7_bit ∈ wA := wi_wA_29 _ (List.mem_of_getElem? (i := 17) rfl)
theorem wm_743 : Cond.methodLink RX7 156 yX7_mix ∈ wA := wi_wA_29 _ (List.mem_of_getElem? (i := 18) rfl)
theorem wm_744 : Cond.static yX7_mix ∈ wA := wi_wA_29 _ (List.mem_of_getElem? (i := 19) rfl)
theorem wm_745 : Cond.methodLink RX7 160 yX7_turn ∈ wA := wi_wA_29 _ (List.mem_of_getElem? (i := 20) rfl)
theorem wm_746 : Cond.static yX7_turn ∈ wA := wi_wA_29 _ (List.mem_of_getElem? (i := 21) rfl)
theorem wm_747 : Cond.methodLink RX7 163 yX7_change ∈ wA := wi_wA_29 _ (List.mem_of_getElem? (i := 22) rfl)
theorem wm_748 : Cond.static yX7_change ∈ wA := wi_wA_29 _ (List.mem_of_getElem? (i := 23) rfl)
theorem wm_749 : Cond.code yX7_act cX7_act 7 none ∈ wA := wi_wA_29 _ (List.mem_of_getElem? (i := 24) rfl)
theorem wm_750 : Cond.methodLink RX7 166 yX7_act ∈ wA := wi_wA_30 _ (List.mem_of_getElem? (i := 0) rfl)
theorem wm_751 : Cond.instanceMethod yX7_act ∈ wA := wi_wA_30 _ (List.mem_of_getElem? (i := 1) rfl)
theorem wm_752 : Cond.selects RX7 yX7_act yX7_act ∈ wA := wi_wA_30 _ (List.mem_of_getElem? (i := 2) rfl)
theorem wm_753 : Cond.code yX7_column cX7_column 6 (some .int) ∈ wA := wi_wA_30 _ (List.mem_of_getElem? (i := 3) rfl)
theorem wm_754 : Cond.fieldLink RX7 174 "RingCircuitsModel" "firstScale" "I" ∈ wA := wi_wA_30 _ (List.mem_of_getElem? (i := 4) rfl)
theorem wm_755 : Cond.fieldLink RX7 177 "RingCircuitsModel" "otherScale" "I" ∈ wA := wi_wA_30 _ (List.mem_of_getElem? (i := 5) rfl)
theorem wm_756 : Cond.methodLink RX7 170 yX7_column ∈ wA := wi_wA_30 _ (List.mem_of_getElem? (i := 6) rfl)
theorem wm_757 : Cond.instanceMethod yX7_column ∈ wA := wi_wA_30 _ (List.mem_of_getElem? (i := 7) rfl)
theorem wm_758 : Cond.selects RX7 yX7_column yX7_column ∈ wA := wi_wA_30 _ (List.mem_of_getElem? (i := 8) rfl)
theorem wm_759 : Cond.methodLink RX7 180 yX7_grow ∈ wA := wi_wA_30 _ (List.mem_of_getElem? (i := 9) rfl)
theorem wm_760 : Cond.static yX7_grow ∈ wA := wi_wA_30 _ (List.mem_of_getElem? (i := 10) rfl)
theorem wm_761 : Cond.code yX7_both cX7_both 5 none ∈ wA := wi_wA_30 _ (List.mem_of_getElem? (i := 11) rfl)
theorem wm_762 : Cond.methodLink RX7 183 yX7_both ∈ wA := wi_wA_30 _ (List.mem_of_getElem? (i := 12) rfl)
theorem wm_763 : Cond.instanceMethod yX7_both ∈ wA := wi_wA_30 _ (List.mem_of_getElem? (i := 13) rfl)
theorem wm_764 : Cond.selects RX7 yX7_both yX7_both ∈ wA := wi_wA_30 _ (List.mem_of_getElem? (i := 14) rfl)
theorem wm_765 : Cond.code yX7_isTurned cX7_isTurned 8 (some .boolean) ∈ wA := wi_wA_30 _ (List.mem_of_getElem? (i := 15) rfl)
theorem wm_766 : Cond.fieldLink RX7 190 "RingCircuitsModel" "phase" "I" ∈ wA := wi_wA_30 _ (List.mem_of_getElem? (i := 16) rfl)
theorem wm_767 : Cond.methodLink RX7 186 yX7_isTurned ∈ wA := wi_wA_30 _ (List.mem_of_getElem? (i := 17) rfl)
theorem wm_768 : Cond.instanceMethod yX7_isTurned ∈ wA := wi_wA_30 _ (List.mem_of_getElem? (i := 18) rfl)
theorem wm_769 : Cond.selects RX7 yX7_isTurned yX7_isTurned ∈ wA := wi_wA_30 _ (List.mem_of_getElem? (i := 19) rfl)
theorem wm_770 : Cond.code yX7_equal cX7_equal 4 (some .int) ∈ wA := wi_wA_30 _ (List.mem_of_getElem? (i := 20) rfl)
theorem wm_771 : Cond.code yX7_phase cX7_phase 1 (some .int) ∈ wA := wi_wA_30 _ (List.mem_of_getElem? (i := 21) rfl)
theorem wm_772 : Cond.code yX7_differ cX7_differ 6 (some .int) ∈ wA := wi_wA_30 _ (List.mem_of_getElem? (i := 22) rfl)
theorem wm_773 : Cond.code yX7_size2 cX7_size2 1 (some .int) ∈ wA := wi_wA_30 _ (List.mem_of_getElem? (i := 23) rfl)
theorem wm_774 : Cond.code yX7_product cX7_product 7 (some .int) ∈ wA := wi_wA_30 _ (List.mem_of_getElem? (i := 24) rfl)
theorem wm_775 : Cond.methodLink RX7 193 yX7_size2 ∈ wA := wi_wA_31 _ (List.mem_of_getElem? (i := 0) rfl)
theorem wm_776 : Cond.static yX7_size2 ∈ wA := wi_wA_31 _ (List.mem_of_getElem? (i := 1) rfl)
theorem wm_777 : Cond.code yX7_image cX7_image 3 (some .int) ∈ wA := wi_wA_31 _ (List.mem_of_getElem? (i := 2) rfl)
theorem wm_778 : Cond.fieldLink RX7 196 "RingCircuitsModel" "leftX" "I" ∈ wA := wi_wA_31 _ (List.mem_of_getElem? (i := 3) rfl)
theorem wm_779 : Cond.fieldLink RX7 199 "RingCircuitsModel" "leftZ" "I" ∈ wA := wi_wA_31 _ (List.mem_of_getElem? (i := 4) rfl)
theorem wm_780 : Cond.methodLink RX7 202 yX7_product ∈ wA := wi_wA_31 _ (List.mem_of_getElem? (i := 5) rfl)
theorem wm_781 : Cond.static yX7_product ∈ wA := wi_wA_31 _ (List.mem_of_getElem? (i := 6) rfl)
theorem wm_782 : Cond.code yX7_joinLeft cX7_joinLeft 1 none ∈ wA := wi_wA_31 _ (List.mem_of_getElem? (i := 7) rfl)
theorem wm_783 : Cond.fieldLink RX7 205 "RingCircuitsModel" "handX" "I" ∈ wA := wi_wA_31 _ (List.mem_of_getElem? (i := 8) rfl)
theorem wm_784 : Cond.fieldLink RX7 211 "RingCircuitsModel" "handZ" "I" ∈ wA := wi_wA_31 _ (List.mem_of_getElem? (i := 9) rfl)
theorem wm_785 : Cond.methodLink RX7 208 yX7_image ∈ wA := wi_wA_31 _ (List.mem_of_getElem? (i := 10) rfl)
theorem wm_786 : Cond.instanceMethod yX7_image ∈ wA := wi_wA_31 _ (List.mem_of_getElem? (i := 11) rfl)
theorem wm_787 : Cond.selects RX7 yX7_image yX7_image ∈ wA := wi_wA_31 _ (List.mem_of_getElem? (i := 12) rfl)
theorem wm_788 : Cond.code yX7_setLeft cX7_setLeft 2 none ∈ wA := wi_wA_31 _ (List.mem_of_getElem? (i := 13) rfl)
theorem wm_789 : Cond.code yX7_joinBackS cX7_joinBackS 1 none ∈ wA := wi_wA_31 _ (List.mem_of_getElem? (i := 14) rfl)
theorem wm_790 : Cond.methodLink RX7 214 yX7_setLeft ∈ wA := wi_wA_31 _ (List.mem_of_getElem? (i := 15) rfl)
theorem wm_791 : Cond.instanceMethod yX7_setLeft ∈ wA := wi_wA_31 _ (List.mem_of_getElem? (i := 16) rfl)
theorem wm_792 : Cond.selects RX7 yX7_setLeft yX7_setLeft ∈ wA := wi_wA_31 _ (List.mem_of_getElem? (i := 17) rfl)
theorem wm_793 : Cond.methodLink RX7 217 yX7_joinLeft ∈ wA := wi_wA_31 _ (List.mem_of_getElem? (i := 18) rfl)
theorem wm_794 : Cond.instanceMethod yX7_joinLeft ∈ wA := wi_wA_31 _ (List.mem_of_getElem? (i := 19) rfl)
theorem wm_795 : Cond.selects RX7 yX7_joinLeft yX7_joinLeft ∈ wA := wi_wA_31 _ (List.mem_of_getElem? (i := 20) rfl)
theorem wm_796 : Cond.code yX7_timesRight cX7_timesRight 2 none ∈ wA := wi_wA_31 _ (List.mem_of_getElem? (i := 21) rfl)
theorem wm_797 : Cond.fieldLink RX7 220 "RingCircuitsModel" "rounds" "I" ∈ wA := wi_wA_31 _ (List.mem_of_getElem? (i := 22) rfl)
theorem wm_798 : Cond.fieldLink RX7 229 "RingCircuitsModel" "restX" "I" ∈ wA := wi_wA_31 _ (List.mem_of_getElem? (i := 23) rfl)
theorem wm_799 : Cond.fieldLink RX7 232 "RingCircuitsModel" "restZ" "I" ∈ wA := wi_wA_31 _ (List.mem_of_getElem? (i := 24) rfl)
theorem wm_800 : Cond.methodLink RX7 223 yX7_timesRight ∈ wA := wi_wA_32 _ (List.mem_of_getElem? (i := 0) rfl)
theorem wm_801 : Cond.instanceMethod yX7_timesRight ∈ wA := wi_wA_32 _ (List.mem_of_getElem? (i := 1) rfl)
theorem wm_802 : Cond.selects RX7 yX7_timesRight yX7_timesRight ∈ wA := wi_wA_32 _ (List.mem_of_getElem? (i := 2) rfl)
theorem wm_803 : Cond.methodLink RX7 226 yX7_joinBackS ∈ wA := wi_wA_32 _ (List.mem_of_getElem? (i := 3) rfl)
theorem wm_804 : Cond.instanceMethod yX7_joinBackS ∈ wA := wi_wA_32 _ (List.mem_of_getElem? (i := 4) rfl)
theorem wm_805 : Cond.selects RX7 yX7_joinBackS yX7_joinBackS ∈ wA := wi_wA_32 _ (List.mem_of_getElem? (i := 5) rfl)
theorem wm_806 : Cond.code yX7_carry cX7_carry 6 none ∈ wA := wi_wA_32 _ (List.mem_of_getElem? (i := 6) rfl)
theorem wm_807 : Cond.code yX7_addRound cX7_addRound 2 none ∈ wA := wi_wA_32 _ (List.mem_of_getElem? (i := 7) rfl)
theorem wm_808 : Cond.code yX7_dropRound cX7_dropRound 2 none ∈ wA := wi_wA_32 _ (List.mem_of_getElem? (i := 8) rfl)
theorem wm_809 : Cond.methodLink RX7 235 yX7_carry ∈ wA := wi_wA_32 _ (List.mem_of_getElem? (i := 9) rfl)
theorem wm_810 : Cond.instanceMethod yX7_carry ∈ wA := wi_wA_32 _ (List.mem_of_getElem? (i := 10) rfl)
theorem wm_811 : Cond.selects RX7 yX7_carry yX7_carry ∈ wA := wi_wA_32 _ (List.mem_of_getElem? (i := 11) rfl)
theorem wm_812 : Cond.methodLink RX7 238 yX7_dropRound ∈ wA := wi_wA_32 _ (List.mem_of_getElem? (i := 12) rfl)
theorem wm_813 : Cond.instanceMethod yX7_dropRound ∈ wA := wi_wA_32 _ (List.mem_of_getElem? (i := 13) rfl)
theorem wm_814 : Cond.selects RX7 yX7_dropRound yX7_dropRound ∈ wA := wi_wA_32 _ (List.mem_of_getElem? (i := 14) rfl)
theorem wm_815 : Cond.methodLink RX7 241 yX7_addRound ∈ wA := wi_wA_32 _ (List.mem_of_getElem? (i := 15) rfl)
theorem wm_816 : Cond.instanceMethod yX7_addRound ∈ wA := wi_wA_32 _ (List.mem_of_getElem? (i := 16) rfl)
theorem wm_817 : Cond.selects RX7 yX7_addRound yX7_addRound ∈ wA := wi_wA_32 _ (List.mem_of_getElem? (i := 17) rfl)
theorem wm_818 : Cond.code yX7_takeGate cX7_takeGate 2 none ∈ wA := wi_wA_32 _ (List.mem_of_getElem? (i := 18) rfl)
theorem wm_819 : Cond.code yX7_findElement cX7_findElement 4 (some .int) ∈ wA := wi_wA_32 _ (List.mem_of_getElem? (i := 19) rfl)
theorem wm_820 : Cond.fieldLink RX7 244 "RingCircuitsModel" "found" "I" ∈ wA := wi_wA_32 _ (List.mem_of_getElem? (i := 20) rfl)
theorem wm_821 : Cond.methodLink RX7 247 yX7_findElement ∈ wA := wi_wA_32 _ (List.mem_of_getElem? (i := 21) rfl)
theorem wm_822 : Cond.instanceMethod yX7_findElement ∈ wA := wi_wA_32 _ (List.mem_of_getElem? (i := 22) rfl)
theorem wm_823 : Cond.selects RX7 yX7_findElement yX7_findElement ∈ wA := wi_wA_32 _ (List.mem_of_getElem? (i := 23) rfl)
theorem wm_824 : Cond.code yX7_findWords cX7_findWords 3 none ∈ wA := wi_wA_32 _ (List.mem_of_getElem? (i := 24) rfl)
theorem wm_825 : Cond.code yX7_putWord cX7_putWord 7 none ∈ wA := wi_wA_33 _ (List.mem_of_getElem? (i := 0) rfl)
theorem wm_826 : Cond.methodLink RX7 250 yX7_takeGate ∈ wA := wi_wA_33 _ (List.mem_of_getElem? (i := 1) rfl)
theorem wm_827 : Cond.instanceMethod yX7_takeGate ∈ wA := wi_wA_33 _ (List.mem_of_getElem? (i := 2) rfl)
theorem wm_828 : Cond.selects RX7 yX7_takeGate yX7_takeGate ∈ wA := wi_wA_33 _ (List.mem_of_getElem? (i := 3) rfl)
theorem wm_829 : Cond.methodLink RX7 253 yX7_findWords ∈ wA := wi_wA_33 _ (List.mem_of_getElem? (i := 4) rfl)
theorem wm_830 : Cond.instanceMethod yX7_findWords ∈ wA := wi_wA_33 _ (List.mem_of_getElem? (i := 5) rfl)
theorem wm_831 : Cond.selects RX7 yX7_findWords yX7_findWords ∈ wA := wi_wA_33 _ (List.mem_of_getElem? (i := 6) rfl)
theorem wm_832 : Cond.methodLink RX7 256 yX7_putWord ∈ wA := wi_wA_33 _ (List.mem_of_getElem? (i := 7) rfl)
theorem wm_833 : Cond.instanceMethod yX7_putWord ∈ wA := wi_wA_33 _ (List.mem_of_getElem? (i := 8) rfl)
theorem wm_834 : Cond.selects RX7 yX7_putWord yX7_putWord ∈ wA := wi_wA_33 _ (List.mem_of_getElem? (i := 9) rfl)
theorem wm_835 : Cond.code yX7_least cX7_least 6 (some .int) ∈ wA := wi_wA_33 _ (List.mem_of_getElem? (i := 10) rfl)
theorem wm_836 : Cond.code yX7_lower cX7_lower 4 none ∈ wA := wi_wA_33 _ (List.mem_of_getElem? (i := 11) rfl)
theorem wm_837 : Cond.fieldLink RX7 259 "RingCircuitsModel" "scale" "I" ∈ wA := wi_wA_33 _ (List.mem_of_getElem? (i := 12) rfl)
theorem wm_838 : Cond.methodLink RX7 262 yX7_lower ∈ wA := wi_wA_33 _ (List.mem_of_getElem? (i := 13) rfl)
theorem wm_839 : Cond.instanceMethod yX7_lower ∈ wA := wi_wA_33 _ (List.mem_of_getElem? (i := 14) rfl)
theorem wm_840 : Cond.selects RX7 yX7_lower yX7_lower ∈ wA := wi_wA_33 _ (List.mem_of_getElem? (i := 15) rfl)
theorem wm_841 : Cond.code yX7_state cX7_state 2 (some .int) ∈ wA := wi_wA_33 _ (List.mem_of_getElem? (i := 16) rfl)
theorem wm_842 : Cond.code yX7_amplitude cX7_amplitude 3 (some .long) ∈ wA := wi_wA_33 _ (List.mem_of_getElem? (i := 17) rfl)
theorem wm_843 : Cond.constantLong RX7 265 (3) ∈ wA := wi_wA_33 _ (List.mem_of_getElem? (i := 18) rfl)
theorem wm_844 : Cond.code yX7_scale cX7_scale 1 (some .int) ∈ wA := wi_wA_33 _ (List.mem_of_getElem? (i := 19) rfl)
theorem wm_845 : Cond.code yX7_weight cX7_weight 15 (some .long) ∈ wA := wi_wA_33 _ (List.mem_of_getElem? (i := 20) rfl)
theorem wm_846 : Cond.code yX7_measure cX7_measure 5 (some .boolean) ∈ wA := wi_wA_33 _ (List.mem_of_getElem? (i := 21) rfl)
theorem wm_847 : Cond.code yX7_row cX7_row 14 (some .int) ∈ wA := wi_wA_33 _ (List.mem_of_getElem? (i := 22) rfl)
theorem wm_848 : Cond.code yX7_type cX7_type 5 (some .int) ∈ wA := wi_wA_33 _ (List.mem_of_getElem? (i := 23) rfl)
theorem wm_849 : Cond.constantLong RX7 267 (8) ∈ wA := wi_wA_33 _ (List.mem_of_getElem? (i := 24) rfl)
theorem wm_850 : Cond.constantLong RX7 269 (255) ∈ wA := wi_wA_34 _ (List.mem_of_getElem? (i := 0) rfl)
theorem wm_851 : Cond.constantLong RX7 271 (32) ∈ wA := wi_wA_34 _ (List.mem_of_getElem? (i := 1) rfl)
theorem wm_852 : Cond.constantLong RX7 273 (126) ∈ wA := wi_wA_34 _ (List.mem_of_getElem? (i := 2) rfl)
theorem wm_853 : Cond.code yX7_letterOf cX7_letterOf 1 (some .int) ∈ wA := wi_wA_34 _ (List.mem_of_getElem? (i := 3) rfl)
theorem wm_854 : Cond.code yX7_say cX7_say 2 none ∈ wA := wi_wA_34 _ (List.mem_of_getElem? (i := 4) rfl)
theorem wm_855 : Cond.code yX7_print cX7_print 4 (some .int) ∈ wA := wi_wA_34 _ (List.mem_of_getElem? (i := 5) rfl)
theorem wm_856 : Cond.methodLink RX7 275 yX7_say ∈ wA := wi_wA_34 _ (List.mem_of_getElem? (i := 6) rfl)
theorem wm_857 : Cond.instanceMethod yX7_say ∈ wA := wi_wA_34 _ (List.mem_of_getElem? (i := 7) rfl)
theorem wm_858 : Cond.selects RX7 yX7_say yX7_say ∈ wA := wi_wA_34 _ (List.mem_of_getElem? (i := 8) rfl)
theorem wm_859 : Cond.methodLink RX7 278 yX7_letterOf ∈ wA := wi_wA_34 _ (List.mem_of_getElem? (i := 9) rfl)
theorem wm_860 : Cond.static yX7_letterOf ∈ wA := wi_wA_34 _ (List.mem_of_getElem? (i := 10) rfl)
theorem wm_861 : Cond.code yX7_character cX7_character 2 (some .int) ∈ wA := wi_wA_34 _ (List.mem_of_getElem? (i := 11) rfl)
theorem wm_862 : Cond.code yX7_kindAt cX7_kindAt 3 (some .int) ∈ wA := wi_wA_34 _ (List.mem_of_getElem? (i := 12) rfl)
theorem wm_863 : Cond.code yX7_wireAt cX7_wireAt 3 (some .int) ∈ wA := wi_wA_34 _ (List.mem_of_getElem? (i := 13) rfl)
theorem wm_864 : Cond.methodLink RX7 281 yX7_kindAt ∈ wA := wi_wA_34 _ (List.mem_of_getElem? (i := 14) rfl)
theorem wm_865 : Cond.instanceMethod yX7_kindAt ∈ wA := wi_wA_34 _ (List.mem_of_getElem? (i := 15) rfl)
theorem wm_866 : Cond.selects RX7 yX7_kindAt yX7_kindAt ∈ wA := wi_wA_34 _ (List.mem_of_getElem? (i := 16) rfl)
theorem wm_867 : Cond.methodLink RX7 284 yX7_wireAt ∈ wA := wi_wA_34 _ (List.mem_of_getElem? (i := 17) rfl)
theorem wm_868 : Cond.instanceMethod yX7_wireAt ∈ wA := wi_wA_34 _ (List.mem_of_getElem? (i := 18) rfl)
theorem wm_869 : Cond.selects RX7 yX7_wireAt yX7_wireAt ∈ wA := wi_wA_34 _ (List.mem_of_getElem? (i := 19) rfl)
theorem wm_870 : Cond.code yX7_readGate cX7_readGate 6 (some .int) ∈ wA := wi_wA_34 _ (List.mem_of_getElem? (i := 20) rfl)
theorem wm_871 : Cond.methodLink RX7 287 yX7_readGate ∈ wA := wi_wA_34 _ (List.mem_of_getElem? (i := 21) rfl)
theorem wm_872 : Cond.instanceMethod yX7_readGate ∈ wA := wi_wA_34 _ (List.mem_of_getElem? (i := 22) rfl)
theorem wm_873 : Cond.selects RX7 yX7_readGate yX7_readGate ∈ wA := wi_wA_34 _ (List.mem_of_getElem? (i := 23) rfl)
theorem wm_874 : Cond.code yX7_read cX7_read 4 (some .int) ∈ wA := wi_wA_34 _ (List.mem_of_getElem? (i := 24) rfl)
theorem wm_875 : Cond.code yX7_place cX7_place 1 (some .int) ∈ wA := wi_wA_35 _ (List.mem_of_getElem? (i := 0) rfl)
theorem wm_876 : Cond.code yJ9_max_7cf53 cJ9_max_7cf53 2 (some .int) ∈ wA := wi_wA_35 _ (List.mem_of_getElem? (i := 1) rfl)
theorem wm_877 : Cond.code yJ9_min_7cf53 cJ9_min_7cf53 2 (some .int) ∈ wA := wi_wA_35 _ (List.mem_of_getElem? (i := 2) rfl)
theorem wm_878 : Cond.classLink RL 13 "java/lang/IllegalArgumentException" ∈ wA := wi_wA_35 _ (List.mem_of_getElem? (i := 3) rfl)
theorem wm_879 : Cond.methodLink RL 7 yX6_wires ∈ wA := wi_wA_35 _ (List.mem_of_getElem? (i := 4) rfl)
theorem wm_880 : Cond.instanceMethod yX6_wires ∈ wA := wi_wA_35 _ (List.mem_of_getElem? (i := 5) rfl)
theorem wm_881 : Cond.selects RX6 yX6_wires yX6_wires ∈ wA := wi_wA_35 _ (List.mem_of_getElem? (i := 6) rfl)
theorem wm_882 : Cond.codeWith yL_wires cL_wires 3 (some .int) [(0, 5, 8, 13)] ∈ wA := wi_wA_35 _ (List.mem_of_getElem? (i := 7) rfl)
theorem wm_883 : Cond.classLink RL 19 "java/lang/IllegalStateException" ∈ wA := wi_wA_35 _ (List.mem_of_getElem? (i := 8) rfl)
theorem wm_884 : Cond.methodLink RL 15 yX6_gate ∈ wA := wi_wA_35 _ (List.mem_of_getElem? (i := 9) rfl)
theorem wm_885 : Cond.instanceMethod yX6_gate ∈ wA := wi_wA_35 _ (List.mem_of_getElem? (i := 10) rfl)
theorem wm_886 : Cond.selects RX6 yX6_gate yX6_gate ∈ wA := wi_wA_35 _ (List.mem_of_getElem? (i := 11) rfl)
theorem wm_887 : Cond.codeWith yL_gate cL_gate 8 (some .int) [(0, 16, 19, 13), (0, 16, 23, 19)] ∈ wA := wi_wA_35 _ (List.mem_of_getElem? (i := 12) rfl)
theorem wm_888 : Cond.codeWith yL_clear cL_clear 3 (some .int) [(0, 5, 8, 13)] ∈ wA := wi_wA_35 _ (List.mem_of_getElem? (i := 13) rfl)
theorem wm_889 : Cond.methodLink RL 21 yX6_clear ∈ wA := wi_wA_35 _ (List.mem_of_getElem? (i := 14) rfl)
theorem wm_890 : Cond.instanceMethod yX6_clear ∈ wA := wi_wA_35 _ (List.mem_of_getElem? (i := 15) rfl)
theorem wm_891 : Cond.selects RX6 yX6_clear yX6_clear ∈ wA := wi_wA_35 _ (List.mem_of_getElem? (i := 16) rfl)
theorem wm_892 : Cond.methodLink RL 24 yX6_append ∈ wA := wi_wA_35 _ (List.mem_of_getElem? (i := 17) rfl)
theorem wm_893 : Cond.instanceMethod yX6_append ∈ wA := wi_wA_35 _ (List.mem_of_getElem? (i := 18) rfl)
theorem wm_894 : Cond.selects RX6 yX6_append yX6_append ∈ wA := wi_wA_35 _ (List.mem_of_getElem? (i := 19) rfl)
theorem wm_895 : Cond.codeWith yL_append cL_append 5 (some .int) [(0, 10, 13, 13), (0, 10, 17, 19)] ∈ wA := wi_wA_35 _ (List.mem_of_getElem? (i := 20) rfl)
theorem wm_896 : Cond.methodLink RL 28 yX6_inverse ∈ wA := wi_wA_35 _ (List.mem_of_getElem? (i := 21) rfl)
theorem wm_897 : Cond.instanceMethod yX6_inverse ∈ wA := wi_wA_35 _ (List.mem_of_getElem? (i := 22) rfl)
theorem wm_898 : Cond.selects RX6 yX6_inverse yX6_inverse ∈ wA := wi_wA_35 _ (List.mem_of_getElem? (i := 23) rfl)
theorem wm_899 : Cond.codeWith yL_inverse cL_inverse 4 (some .int) [(0, 9, 12, 13), (0, 9, 15, 19)] ∈ wA := wi_wA_35 _ (List.mem_of_getElem? (i := 24) rfl)
theorem wm_900 : Cond.methodLink RL 32 yX6_expand ∈ wA := wi_wA_36 _ (List.mem_of_getElem? (i := 0) rfl)
theorem wm_901 : Cond.instanceMethod yX6_expand ∈ wA := wi_wA_36 _ (List.mem_of_getElem? (i := 1) rfl)
theorem wm_902 : Cond.selects RX6 yX6_expand yX6_expand ∈ wA := wi_wA_36 _ (List.mem_of_getElem? (i := 2) rfl)
theorem wm_903 : Cond.codeWith yL_expand cL_expand 4 (some .int) [(0, 9, 12, 13), (0, 9, 15, 19)] ∈ wA := wi_wA_36 _ (List.mem_of_getElem? (i := 3) rfl)
theorem wm_904 : Cond.methodLink RL 35 yX6_optimise ∈ wA := wi_wA_36 _ (List.mem_of_getElem? (i := 4) rfl)
theorem wm_905 : Cond.instanceMethod yX6_optimise ∈ wA := wi_wA_36 _ (List.mem_of_getElem? (i := 5) rfl)
theorem wm_906 : Cond.selects RX6 yX6_optimise yX6_optimise ∈ wA := wi_wA_36 _ (List.mem_of_getElem? (i := 6) rfl)
theorem wm_907 : Cond.codeWith yL_optimise cL_optimise 4 (some .int) [(0, 9, 12, 13)] ∈ wA := wi_wA_36 _ (List.mem_of_getElem? (i := 7) rfl)
theorem wm_908 : Cond.methodLink RL 38 yX6_least ∈ wA := wi_wA_36 _ (List.mem_of_getElem? (i := 8) rfl)
theorem wm_909 : Cond.instanceMethod yX6_least ∈ wA := wi_wA_36 _ (List.mem_of_getElem? (i := 9) rfl)
theorem wm_910 : Cond.selects RX6 yX6_least yX6_least ∈ wA := wi_wA_36 _ (List.mem_of_getElem? (i := 10) rfl)
theorem wm_911 : Cond.codeWith yL_least cL_least 4 (some .int) [(0, 9, 12, 13), (0, 9, 15, 19)] ∈ wA := wi_wA_36 _ (List.mem_of_getElem? (i := 11) rfl)
theorem wm_912 : Cond.methodLink RL 41 yX6_equal ∈ wA := wi_wA_36 _ (List.mem_of_getElem? (i := 12) rfl)
theorem wm_913 : Cond.instanceMethod yX6_equal ∈ wA := wi_wA_36 _ (List.mem_of_getElem? (i := 13) rfl)
theorem wm_914 : Cond.selects RX6 yX6_equal yX6_equal ∈ wA := wi_wA_36 _ (List.mem_of_getElem? (i := 14) rfl)
theorem wm_915 : Cond.codeWith yL_equal cL_equal 5 (some .int) [(0, 10, 13, 13)] ∈ wA := wi_wA_36 _ (List.mem_of_getElem? (i := 15) rfl)
theorem wm_916 : Cond.methodLink RL 44 yX6_differ ∈ wA := wi_wA_36 _ (List.mem_of_getElem? (i := 16) rfl)
theorem wm_917 : Cond.instanceMethod yX6_differ ∈ wA := wi_wA_36 _ (List.mem_of_getElem? (i := 17) rfl)
theorem wm_918 : Cond.selects RX6 yX6_differ yX6_differ ∈ wA := wi_wA_36 _ (List.mem_of_getElem? (i := 18) rfl)
theorem wm_919 : Cond.codeWith yL_differ cL_differ 5 (some .int) [(0, 10, 13, 13)] ∈ wA := wi_wA_36 _ (List.mem_of_getElem? (i := 19) rfl)
theorem wm_920 : Cond.methodLink RL 47 yX6_state ∈ wA := wi_wA_36 _ (List.mem_of_getElem? (i := 20) rfl)
theorem wm_921 : Cond.instanceMethod yX6_state ∈ wA := wi_wA_36 _ (List.mem_of_getElem? (i := 21) rfl)
theorem wm_922 : Cond.selects RX6 yX6_state yX6_state ∈ wA := wi_wA_36 _ (List.mem_of_getElem? (i := 22) rfl)
theorem wm_923 : Cond.codeWith yL_state cL_state 4 (some .int) [(0, 9, 12, 13)] ∈ wA := wi_wA_36 _ (List.mem_of_getElem? (i := 23) rfl)
theorem wm_924 : Cond.codeWith yL_amplitude cL_amplitude 5 (some .int) [(0, 9, 12, 19), (0, 9, 16, 54)] ∈ wA := wi_wA_36 _ (List.mem_of_getElem? (i := 24) rfl)
theorem wm_925 : Cond.classLink RL 54 "java/lang/IndexOutOfBoundsException" ∈ wA := wi_wA_37 _ (List.mem_of_getElem? (i := 0) rfl)
theorem wm_926 : Cond.methodLink RL 50 yX6_amplitude ∈ wA := wi_wA_37 _ (List.mem_of_getElem? (i := 1) rfl)
theorem wm_927 : Cond.instanceMethod yX6_amplitude ∈ wA := wi_wA_37 _ (List.mem_of_getElem? (i := 2) rfl)
theorem wm_928 : Cond.selects RX6 yX6_amplitude yX6_amplitude ∈ wA := wi_wA_37 _ (List.mem_of_getElem? (i := 3) rfl)
theorem wm_929 : Cond.methodLink RL 56 yX6_weight ∈ wA := wi_wA_37 _ (List.mem_of_getElem? (i := 4) rfl)
theorem wm_930 : Cond.instanceMethod yX6_weight ∈ wA := wi_wA_37 _ (List.mem_of_getElem? (i := 5) rfl)
theorem wm_931 : Cond.selects RX6 yX6_weight yX6_weight ∈ wA := wi_wA_37 _ (List.mem_of_getElem? (i := 6) rfl)
theorem wm_932 : Cond.codeWith yL_weight cL_weight 6 (some .int) [(0, 11, 14, 19), (0, 11, 18, 54)] ∈ wA := wi_wA_37 _ (List.mem_of_getElem? (i := 7) rfl)
theorem wm_933 : Cond.methodLink RL 60 yX6_measure ∈ wA := wi_wA_37 _ (List.mem_of_getElem? (i := 8) rfl)
theorem wm_934 : Cond.instanceMethod yX6_measure ∈ wA := wi_wA_37 _ (List.mem_of_getElem? (i := 9) rfl)
theorem wm_935 : Cond.selects RX6 yX6_measure yX6_measure ∈ wA := wi_wA_37 _ (List.mem_of_getElem? (i := 10) rfl)
theorem wm_936 : Cond.codeWith yL_measure cL_measure 5 (some .int) [(0, 17, 20, 19), (0, 17, 24, 54)] ∈ wA := wi_wA_37 _ (List.mem_of_getElem? (i := 11) rfl)
theorem wm_937 : Cond.methodLink RL 64 yX6_row ∈ wA := wi_wA_37 _ (List.mem_of_getElem? (i := 12) rfl)
theorem wm_938 : Cond.instanceMethod yX6_row ∈ wA := wi_wA_37 _ (List.mem_of_getElem? (i := 13) rfl)
theorem wm_939 : Cond.selects RX6 yX6_row yX6_row ∈ wA := wi_wA_37 _ (List.mem_of_getElem? (i := 14) rfl)
theorem wm_940 : Cond.codeWith yL_row cL_row 5 (some .int) [(0, 10, 13, 13), (0, 10, 17, 19)] ∈ wA := wi_wA_37 _ (List.mem_of_getElem? (i := 15) rfl)
theorem wm_941 : Cond.methodLink RL 67 yX6_print ∈ wA := wi_wA_37 _ (List.mem_of_getElem? (i := 16) rfl)
theorem wm_942 : Cond.instanceMethod yX6_print ∈ wA := wi_wA_37 _ (List.mem_of_getElem? (i := 17) rfl)
theorem wm_943 : Cond.selects RX6 yX6_print yX6_print ∈ wA := wi_wA_37 _ (List.mem_of_getElem? (i := 18) rfl)
theorem wm_944 : Cond.codeWith yL_print cL_print 4 (some .int) [(0, 9, 12, 13)] ∈ wA := wi_wA_37 _ (List.mem_of_getElem? (i := 19) rfl)
theorem wm_945 : Cond.methodLink RL 70 yX6_read ∈ wA := wi_wA_37 _ (List.mem_of_getElem? (i := 20) rfl)
theorem wm_946 : Cond.instanceMethod yX6_read ∈ wA := wi_wA_37 _ (List.mem_of_getElem? (i := 21) rfl)
theorem wm_947 : Cond.selects RX6 yX6_read yX6_read ∈ wA := wi_wA_37 _ (List.mem_of_getElem? (i := 22) rfl)
theorem wm_948 : Cond.codeWith yL_read cL_read 4 (some .int) [(0, 9, 12, 13)] ∈ wA := wi_wA_37 _ (List.mem_of_getElem? (i := 23) rfl)
theorem wm_949 : Cond.classLink RL 8 RX6 ∈ wA := wi_wA_37 _ (List.mem_of_getElem? (i := 24) rfl)
theorem wm_950 : Cond.instantiable RX6 14 ∈ wA := wi_wA_38 _ (List.mem_of_getElem? (i := 0) rfl)
theorem wm_951 : Cond.classLink RL 74 RX7 ∈ wA := wi_wA_38 _ (List.mem_of_getElem? (i := 1) rfl)
theorem wm_952 : Cond.instantiable RX7 31 ∈ wA := wi_wA_38 _ (List.mem_of_getElem? (i := 2) rfl)
theorem wm_953 : Cond.constantLong RL 149 (4294967295) ∈ wA := wi_wA_38 _ (List.mem_of_getElem? (i := 3) rfl)
theorem wm_954 : Cond.methodLink RL 73 yX6_init ∈ wA := wi_wA_38 _ (List.mem_of_getElem? (i := 4) rfl)
theorem wm_955 : Cond.instanceMethod yX6_init ∈ wA := wi_wA_38 _ (List.mem_of_getElem? (i := 5) rfl)
theorem wm_956 : Cond.methodLink RL 76 yX7_init ∈ wA := wi_wA_38 _ (List.mem_of_getElem? (i := 6) rfl)
theorem wm_957 : Cond.instanceMethod yX7_init ∈ wA := wi_wA_38 _ (List.mem_of_getElem? (i := 7) rfl)
theorem wm_958 : Cond.methodLink RL 77 yL_wires ∈ wA := wi_wA_38 _ (List.mem_of_getElem? (i := 8) rfl)
theorem wm_959 : Cond.static yL_wires ∈ wA := wi_wA_38 _ (List.mem_of_getElem? (i := 9) rfl)
theorem wm_960 : Cond.initialized RL ∈ wA := wi_wA_38 _ (List.mem_of_getElem? (i := 10) rfl)
theorem wm_961 : Cond.methodLink RL 82 yX7_wires ∈ wA := wi_wA_38 _ (List.mem_of_getElem? (i := 11) rfl)
theorem wm_962 : Cond.instanceMethod yX7_wires ∈ wA := wi_wA_38 _ (List.mem_of_getElem? (i := 12) rfl)
theorem wm_963 : Cond.selects RX7 yX7_wires yX7_wires ∈ wA := wi_wA_38 _ (List.mem_of_getElem? (i := 13) rfl)
theorem wm_964 : Cond.methodLink RL 83 yX7_thrown ∈ wA := wi_wA_38 _ (List.mem_of_getElem? (i := 14) rfl)
theorem wm_965 : Cond.instanceMethod yX7_thrown ∈ wA := wi_wA_38 _ (List.mem_of_getElem? (i := 15) rfl)
theorem wm_966 : Cond.selects RX7 yX7_thrown yX7_thrown ∈ wA := wi_wA_38 _ (List.mem_of_getElem? (i := 16) rfl)
theorem wm_967 : Cond.methodLink RL 87 yL_gate ∈ wA := wi_wA_38 _ (List.mem_of_getElem? (i := 17) rfl)
theorem wm_968 : Cond.static yL_gate ∈ wA := wi_wA_38 _ (List.mem_of_getElem? (i := 18) rfl)
theorem wm_969 : Cond.methodLink RL 90 yX7_gate ∈ wA := wi_wA_38 _ (List.mem_of_getElem? (i := 19) rfl)
theorem wm_970 : Cond.instanceMethod yX7_gate ∈ wA := wi_wA_38 _ (List.mem_of_getElem? (i := 20) rfl)
theorem wm_971 : Cond.selects RX7 yX7_gate yX7_gate ∈ wA := wi_wA_38 _ (List.mem_of_getElem? (i := 21) rfl)
theorem wm_972 : Cond.methodLink RL 91 yX6_size ∈ wA := wi_wA_38 _ (List.mem_of_getElem? (i := 22) rfl)
theorem wm_973 : Cond.instanceMethod yX6_size ∈ wA := wi_wA_38 _ (List.mem_of_getElem? (i := 23) rfl)
theorem wm_974 : Cond.selects RX6 yX6_size yX6_size ∈ wA := wi_wA_38 _ (List.mem_of_getElem? (i := 24) rfl)
theorem wm_975 : Cond.methodLink RL 94 yX7_size ∈ wA := wi_wA_39 _ (List.mem_of_getElem? (i := 0) rfl)
theorem wm_976 : Cond.instanceMethod yX7_size ∈ wA := wi_wA_39 _ (List.mem_of_getElem? (i := 1) rfl)
theorem wm_977 : Cond.selects RX7 yX7_size yX7_size ∈ wA := wi_wA_39 _ (List.mem_of_getElem? (i := 2) rfl)
theorem wm_978 : Cond.methodLink RL 95 yX6_gateAt ∈ wA := wi_wA_39 _ (List.mem_of_getElem? (i := 3) rfl)
theorem wm_979 : Cond.instanceMethod yX6_gateAt ∈ wA := wi_wA_39 _ (List.mem_of_getElem? (i := 4) rfl)
theorem wm_980 : Cond.selects RX6 yX6_gateAt yX6_gateAt ∈ wA := wi_wA_39 _ (List.mem_of_getElem? (i := 5) rfl)
theorem wm_981 : Cond.methodLink RL 98 yX7_gateAt ∈ wA := wi_wA_39 _ (List.mem_of_getElem? (i := 6) rfl)
theorem wm_982 : Cond.instanceMethod yX7_gateAt ∈ wA := wi_wA_39 _ (List.mem_of_getElem? (i := 7) rfl)
theorem wm_983 : Cond.selects RX7 yX7_gateAt yX7_gateAt ∈ wA := wi_wA_39 _ (List.mem_of_getElem? (i := 8) rfl)
theorem wm_984 : Cond.methodLink RL 99 yL_clear ∈ wA := wi_wA_39 _ (List.mem_of_getElem? (i := 9) rfl)
theorem wm_985 : Cond.static yL_clear ∈ wA := wi_wA_39 _ (List.mem_of_getElem? (i := 10) rfl)
theorem wm_986 : Cond.methodLink RL 101 yX7_clear ∈ wA := wi_wA_39 _ (List.mem_of_getElem? (i := 11) rfl)
theorem wm_987 : Cond.instanceMethod yX7_clear ∈ wA := wi_wA_39 _ (List.mem_of_getElem? (i := 12) rfl)
theorem wm_988 : Cond.selects RX7 yX7_clear yX7_clear ∈ wA := wi_wA_39 _ (List.mem_of_getElem? (i := 13) rfl)
theorem wm_989 : Cond.methodLink RL 102 yL_append ∈ wA := wi_wA_39 _ (List.mem_of_getElem? (i := 14) rfl)
theorem wm_990 : Cond.static yL_append ∈ wA := wi_wA_39 _ (List.mem_of_getElem? (i := 15) rfl)
theorem wm_991 : Cond.methodLink RL 105 yX7_append ∈ wA := wi_wA_39 _ (List.mem_of_getElem? (i := 16) rfl)
theorem wm_992 : Cond.instanceMethod yX7_append ∈ wA := wi_wA_39 _ (List.mem_of_getElem? (i := 17) rfl)
theorem wm_993 : Cond.selects RX7 yX7_append yX7_append ∈ wA := wi_wA_39 _ (List.mem_of_getElem? (i := 18) rfl)
theorem wm_994 : Cond.methodLink RL 106 yL_inverse ∈ wA := wi_wA_39 _ (List.mem_of_getElem? (i := 19) rfl)
theorem wm_995 : Cond.static yL_inverse ∈ wA := wi_wA_39 _ (List.mem_of_getElem? (i := 20) rfl)
theorem wm_996 : Cond.methodLink RL 109 yX7_inverse ∈ wA := wi_wA_39 _ (List.mem_of_getElem? (i := 21) rfl)
theorem wm_997 : Cond.instanceMethod yX7_inverse ∈ wA := wi_wA_39 _ (List.mem_of_getElem? (i := 22) rfl)
theorem wm_998 : Cond.selects RX7 yX7_inverse yX7_inverse ∈ wA := wi_wA_39 _ (List.mem_of_getElem? (i := 23) rfl)
theorem wm_999 : Cond.methodLink RL 110 yL_expand ∈ wA := wi_wA_39 _ (List.mem_of_getElem? (i := 24) rfl)
theorem wm_1000 : Cond.static yL_expand ∈ wA := wi_wA_40 _ (List.mem_of_getElem? (i := 0) rfl)
theorem wm_1001 : Cond.methodLink RL 112 yX7_expand ∈ wA := wi_wA_40 _ (List.mem_of_getElem? (i := 1) rfl)
theorem wm_1002 : Cond.instanceMethod yX7_expand ∈ wA := wi_wA_40 _ (List.mem_of_getElem? (i := 2) rfl)
theorem wm_1003 : Cond.selects RX7 yX7_expand yX7_expand ∈ wA := wi_wA_40 _ (List.mem_of_getElem? (i := 3) rfl)
theorem wm_1004 : Cond.methodLink RL 113 yL_optimise ∈ wA := wi_wA_40 _ (List.mem_of_getElem? (i := 4) rfl)
theorem wm_1005 : Cond.static yL_optimise ∈ wA := wi_wA_40 _ (List.mem_of_getElem? (i := 5) rfl)
theorem wm_1006 : Cond.methodLink RL 115 yX7_optimise ∈ wA := wi_wA_40 _ (List.mem_of_getElem? (i := 6) rfl)
theorem wm_1007 : Cond.instanceMethod yX7_optimise ∈ wA := wi_wA_40 _ (List.mem_of_getElem? (i := 7) rfl)
theorem wm_1008 : Cond.selects RX7 yX7_optimise yX7_optimise ∈ wA := wi_wA_40 _ (List.mem_of_getElem? (i := 8) rfl)
theorem wm_1009 : Cond.methodLink RL 116 yL_least ∈ wA := wi_wA_40 _ (List.mem_of_getElem? (i := 9) rfl)
theorem wm_1010 : Cond.static yL_least ∈ wA := wi_wA_40 _ (List.mem_of_getElem? (i := 10) rfl)
theorem wm_1011 : Cond.methodLink RL 118 yX7_least ∈ wA := wi_wA_40 _ (List.mem_of_getElem? (i := 11) rfl)
theorem wm_1012 : Cond.instanceMethod yX7_least ∈ wA := wi_wA_40 _ (List.mem_of_getElem? (i := 12) rfl)
theorem wm_1013 : Cond.selects RX7 yX7_least yX7_least ∈ wA := wi_wA_40 _ (List.mem_of_getElem? (i := 13) rfl)
theorem wm_1014 : Cond.methodLink RL 119 yL_equal ∈ wA := wi_wA_40 _ (List.mem_of_getElem? (i := 14) rfl)
theorem wm_1015 : Cond.static yL_equal ∈ wA := wi_wA_40 _ (List.mem_of_getElem? (i := 15) rfl)
theorem wm_1016 : Cond.methodLink RL 121 yX7_equal ∈ wA := wi_wA_40 _ (List.mem_of_getElem? (i := 16) rfl)
theorem wm_1017 : Cond.instanceMethod yX7_equal ∈ wA := wi_wA_40 _ (List.mem_of_getElem? (i := 17) rfl)
theorem wm_1018 : Cond.selects RX7 yX7_equal yX7_equal ∈ wA := wi_wA_40 _ (List.mem_of_getElem? (i := 18) rfl)
theorem wm_1019 : Cond.methodLink RL 122 yX6_phase ∈ wA := wi_wA_40 _ (List.mem_of_getElem? (i := 19) rfl)
theorem wm_1020 : Cond.instanceMethod yX6_phase ∈ wA := wi_wA_40 _ (List.mem_of_getElem? (i := 20) rfl)
theorem wm_1021 : Cond.selects RX6 yX6_phase yX6_phase ∈ wA := wi_wA_40 _ (List.mem_of_getElem? (i := 21) rfl)
theorem wm_1022 : Cond.methodLink RL 125 yX7_phase ∈ wA := wi_wA_40 _ (List.mem_of_getElem? (i := 22) rfl)
theorem wm_1023 : Cond.instanceMethod yX7_phase ∈ wA := wi_wA_40 _ (List.mem_of_getElem? (i := 23) rfl)
theorem wm_1024 : Cond.selects RX7 yX7_phase yX7_phase ∈ wA := wi_wA_40 _ (List.mem_of_getElem? (i := 24) rfl)
theorem wm_1025 : Cond.methodLink RL 126 yL_differ ∈ wA := wi_wA_41 _ (List.mem_of_getElem? (i := 0) rfl)
theorem wm_1026 : Cond.static yL_differ ∈ wA := wi_wA_41 _ (List.mem_of_getElem? (i := 1) rfl)
theorem wm_1027 : Cond.methodLink RL 128 yX7_differ ∈ wA := wi_wA_41 _ (List.mem_of_getElem? (i := 2) rfl)
theorem wm_1028 : Cond.instanceMethod yX7_differ ∈ wA := wi_wA_41 _ (List.mem_of_getElem? (i := 3) rfl)
theorem wm_1029 : Cond.selects RX7 yX7_differ yX7_differ ∈ wA := wi_wA_41 _ (List.mem_of_getElem? (i := 4) rfl)
theorem wm_1030 : Cond.methodLink RL 129 yL_state ∈ wA := wi_wA_41 _ (List.mem_of_getElem? (i := 5) rfl)
theorem wm_1031 : Cond.static yL_state ∈ wA := wi_wA_41 _ (List.mem_of_getElem? (i := 6) rfl)
theorem wm_1032 : Cond.methodLink RL 131 yX7_state ∈ wA := wi_wA_41 _ (List.mem_of_getElem? (i := 7) rfl)
theorem wm_1033 : Cond.instanceMethod yX7_state ∈ wA := wi_wA_41 _ (List.mem_of_getElem? (i := 8) rfl)
theorem wm_1034 : Cond.selects RX7 yX7_state yX7_state ∈ wA := wi_wA_41 _ (List.mem_of_getElem? (i := 9) rfl)
theorem wm_1035 : Cond.methodLink RL 132 yL_amplitude ∈ wA := wi_wA_41 _ (List.mem_of_getElem? (i := 10) rfl)
theorem wm_1036 : Cond.static yL_amplitude ∈ wA := wi_wA_41 _ (List.mem_of_getElem? (i := 11) rfl)
theorem wm_1037 : Cond.methodLink RL 134 yX7_amplitude ∈ wA := wi_wA_41 _ (List.mem_of_getElem? (i := 12) rfl)
theorem wm_1038 : Cond.instanceMethod yX7_amplitude ∈ wA := wi_wA_41 _ (List.mem_of_getElem? (i := 13) rfl)
theorem wm_1039 : Cond.selects RX7 yX7_amplitude yX7_amplitude ∈ wA := wi_wA_41 _ (List.mem_of_getElem? (i := 14) rfl)
theorem wm_1040 : Cond.methodLink RL 135 yX6_scale ∈ wA := wi_wA_41 _ (List.mem_of_getElem? (i := 15) rfl)
theorem wm_1041 : Cond.instanceMethod yX6_scale ∈ wA := wi_wA_41 _ (List.mem_of_getElem? (i := 16) rfl)
theorem wm_1042 : Cond.selects RX6 yX6_scale yX6_scale ∈ wA := wi_wA_41 _ (List.mem_of_getElem? (i := 17) rfl)
theorem wm_1043 : Cond.methodLink RL 138 yX7_scale ∈ wA := wi_wA_41 _ (List.mem_of_getElem? (i := 18) rfl)
theorem wm_1044 : Cond.instanceMethod yX7_scale ∈ wA := wi_wA_41 _ (List.mem_of_getElem? (i := 19) rfl)
theorem wm_1045 : Cond.selects RX7 yX7_scale yX7_scale ∈ wA := wi_wA_41 _ (List.mem_of_getElem? (i := 20) rfl)
theorem wm_1046 : Cond.methodLink RL 139 yL_weight ∈ wA := wi_wA_41 _ (List.mem_of_getElem? (i := 21) rfl)
theorem wm_1047 : Cond.static yL_weight ∈ wA := wi_wA_41 _ (List.mem_of_getElem? (i := 22) rfl)
theorem wm_1048 : Cond.methodLink RL 142 yX7_weight ∈ wA := wi_wA_41 _ (List.mem_of_getElem? (i := 23) rfl)
theorem wm_1049 : Cond.instanceMethod yX7_weight ∈ wA := wi_wA_41 _ (List.mem_of_getElem? (i := 24) rfl)
theorem wm_1050 : Cond.selects RX7 yX7_weight yX7_weight ∈ wA := wi_wA_42 _ (List.mem_of_getElem? (i := 0) rfl)
theorem wm_1051 : Cond.methodLink RL 143 yL_measure ∈ wA := wi_wA_42 _ (List.mem_of_getElem? (i := 1) rfl)
theorem wm_1052 : Cond.static yL_measure ∈ wA := wi_wA_42 _ (List.mem_of_getElem? (i := 2) rfl)
theorem wm_1053 : Cond.methodLink RL 145 yX7_measure ∈ wA := wi_wA_42 _ (List.mem_of_getElem? (i := 3) rfl)
theorem wm_1054 : Cond.instanceMethod yX7_measure ∈ wA := wi_wA_42 _ (List.mem_of_getElem? (i := 4) rfl)
theorem wm_1055 : Cond.selects RX7 yX7_measure yX7_measure ∈ wA := wi_wA_42 _ (List.mem_of_getElem? (i := 5) rfl)
theorem wm_1056 : Cond.methodLink RL 146 yL_row ∈ wA := wi_wA_42 _ (List.mem_of_getElem? (i := 6) rfl)
theorem wm_1057 : Cond.static yL_row ∈ wA := wi_wA_42 _ (List.mem_of_getElem? (i := 7) rfl)
theorem wm_1058 : Cond.methodLink RL 148 yX7_row ∈ wA := wi_wA_42 _ (List.mem_of_getElem? (i := 8) rfl)
theorem wm_1059 : Cond.instanceMethod yX7_row ∈ wA := wi_wA_42 _ (List.mem_of_getElem? (i := 9) rfl)
theorem wm_1060 : Cond.selects RX7 yX7_row yX7_row ∈ wA := wi_wA_42 _ (List.mem_of_getElem? (i := 10) rfl)
theorem wm_1061 : Cond.methodLink RL 151 yX6_type ∈ wA := wi_wA_42 _ (List.mem_of_getElem? (i := 11) rfl)
theorem wm_1062 : Cond.instanceMethod yX6_type ∈ wA := wi_wA_42 _ (List.mem_of_getElem? (i := 12) rfl)
theorem wm_1063 : Cond.selects RX6 yX6_type yX6_type ∈ wA := wi_wA_42 _ (List.mem_of_getElem? (i := 13) rfl)
theorem wm_1064 : Cond.methodLink RL 155 yX7_type ∈ wA := wi_wA_42 _ (List.mem_of_getElem? (i := 14) rfl)
theorem wm_1065 : Cond.instanceMethod yX7_type ∈ wA := wi_wA_42 _ (List.mem_of_getElem? (i := 15) rfl)
theorem wm_1066 : Cond.selects RX7 yX7_type yX7_type ∈ wA := wi_wA_42 _ (List.mem_of_getElem? (i := 16) rfl)
theorem wm_1067 : Cond.methodLink RL 156 yL_print ∈ wA := wi_wA_42 _ (List.mem_of_getElem? (i := 17) rfl)
theorem wm_1068 : Cond.static yL_print ∈ wA := wi_wA_42 _ (List.mem_of_getElem? (i := 18) rfl)
theorem wm_1069 : Cond.methodLink RL 158 yX7_print ∈ wA := wi_wA_42 _ (List.mem_of_getElem? (i := 19) rfl)
theorem wm_1070 : Cond.instanceMethod yX7_print ∈ wA := wi_wA_42 _ (List.mem_of_getElem? (i := 20) rfl)
theorem wm_1071 : Cond.selects RX7 yX7_print yX7_print ∈ wA := wi_wA_42 _ (List.mem_of_getElem? (i := 21) rfl)
theorem wm_1072 : Cond.methodLink RL 159 yX6_character ∈ wA := wi_wA_42 _ (List.mem_of_getElem? (i := 22) rfl)
theorem wm_1073 : Cond.instanceMethod yX6_character ∈ wA := wi_wA_42 _ (List.mem_of_getElem? (i := 23) rfl)
theorem wm_1074 : Cond.selects RX6 yX6_character yX6_character ∈ wA := wi_wA_42 _ (List.mem_of_getElem? (i := 24) rfl)
theorem wm_1075 : Cond.methodLink RL 162 yX7_character ∈ wA := wi_wA_43 _ (List.mem_of_getElem? (i := 0) rfl)
theorem wm_1076 : Cond.instanceMethod yX7_character ∈ wA := wi_wA_43 _ (List.mem_of_getElem? (i := 1) rfl)
theorem wm_1077 : Cond.selects RX7 yX7_character yX7_character ∈ wA := wi_wA_43 _ (List.mem_of_getElem? (i := 2) rfl)
theorem wm_1078 : Cond.methodLink RL 163 yL_read ∈ wA := wi_wA_43 _ (List.mem_of_getElem? (i := 3) rfl)
theorem wm_1079 : Cond.static yL_read ∈ wA := wi_wA_43 _ (List.mem_of_getElem? (i := 4) rfl)
theorem wm_1080 : Cond.methodLink RL 165 yX7_read ∈ wA := wi_wA_43 _ (List.mem_of_getElem? (i := 5) rfl)
theorem wm_1081 : Cond.instanceMethod yX7_read ∈ wA := wi_wA_43 _ (List.mem_of_getElem? (i := 6) rfl)
theorem wm_1082 : Cond.selects RX7 yX7_read yX7_read ∈ wA := wi_wA_43 _ (List.mem_of_getElem? (i := 7) rfl)
theorem wm_1083 : Cond.methodLink RL 166 yX6_place ∈ wA := wi_wA_43 _ (List.mem_of_getElem? (i := 8) rfl)
theorem wm_1084 : Cond.instanceMethod yX6_place ∈ wA := wi_wA_43 _ (List.mem_of_getElem? (i := 9) rfl)
theorem wm_1085 : Cond.selects RX6 yX6_place yX6_place ∈ wA := wi_wA_43 _ (List.mem_of_getElem? (i := 10) rfl)
theorem wm_1086 : Cond.methodLink RL 169 yX7_place ∈ wA := wi_wA_43 _ (List.mem_of_getElem? (i := 11) rfl)
theorem wm_1087 : Cond.instanceMethod yX7_place ∈ wA := wi_wA_43 _ (List.mem_of_getElem? (i := 12) rfl)
theorem wm_1088 : Cond.selects RX7 yX7_place yX7_place ∈ wA := wi_wA_43 _ (List.mem_of_getElem? (i := 13) rfl)
section
variable {own C : String} {idx : Nat} {y : MethodName} {cm cy : Cond}
theorem z_in {w : Cond} (h : w ∈ wA) : w ∈ cm :: wA := List.mem_cons_of_mem _ h
theorem z_gA (hy : cy ∈ wA) : GoodIn (cm :: wA) (cy :: wA) := fun w h => by
  have h1 : w ∈ wA := (List.mem_cons.mp h).elim (fun e => by rw [e]; exact hy) id
  exact ⟨List.mem_cons_of_mem _ h1, wA_good w h1⟩
theorem z_gL {ls : List Cond} (hl : ∀ w ∈ ls, w ∈ wA) (hy : cy ∈ wA) : GoodIn (cm :: wA) (ls ++ cy :: wA) := fun w h => by
  rcases List.mem_append.mp h with h | h
  · exact ⟨List.mem_cons_of_mem _ (hl w h), wA_good w (hl w h)⟩
  · exact z_gA hy w h
theorem z_m4 {a b c d : Cond} (ha : a ∈ wA) (hb : b ∈ wA) (hc : c ∈ wA) (hd : d ∈ wA) : ∀ w ∈ [a, b, c, d], w ∈ wA := List.forall_mem_cons.mpr ⟨ha, List.forall_mem_cons.mpr ⟨hb, List.forall_mem_cons.mpr ⟨hc, List.forall_mem_cons.mpr ⟨hd, fun _ h => absurd h List.not_mem_nil⟩⟩⟩⟩
theorem z_m3 {a b c : Cond} (ha : a ∈ wA) (hb : b ∈ wA) (hc : c ∈ wA) : ∀ w ∈ [a, b, c], w ∈ wA := List.forall_mem_cons.mpr ⟨ha, List.forall_mem_cons.mpr ⟨hb, List.forall_mem_cons.mpr ⟨hc, fun _ h => absurd h List.not_mem_nil⟩⟩⟩
theorem z_gV (h1 : Cond.methodLink own idx y ∈ wA) (h2 : Cond.instanceMethod y ∈ wA) (h3 : Cond.selects C y y ∈ wA) (h4 : Cond.initialized C ∈ wA) (hy : cy ∈ wA) : GoodIn (cm :: wA) (wsV own idx C y (cy :: wA)) := z_gL (z_m4 h1 h2 h3 h4) hy
theorem z_gS (h1 : Cond.methodLink own idx y ∈ wA) (h2 : Cond.static y ∈ wA) (h4 : Cond.initialized y.cls ∈ wA) (hy : cy ∈ wA) : GoodIn (cm :: wA) (va_wsS own idx y (cy :: wA)) := z_gL (z_m3 h1 h2 h4) hy
end
abbrev wmX0_init : List Cond := Cond.code yX0_init cX0_init 1 none :: wA
abbrev wmX0_count : List Cond := Cond.code yX0_count cX0_count 1 (some .int) :: wA
abbrev wmX0_at : List Cond := Cond.code yX0_at cX0_at 2 (some .int) :: wA
abbrev wmX0_removeAll : List Cond := Cond.code yX0_removeAll cX0_removeAll 1 none :: wA
abbrev wmX0_add : List Cond := Cond.code yX0_add cX0_add 2 none :: wA
abbrev wmX0_addAll : List Cond := Cond.code yX0_addAll cX0_addAll 4 none :: wA
abbrev wmX0_become : List Cond := Cond.code yX0_become cX0_become 2 none :: wA
abbrev wmX2_kind : List Cond := Cond.code yX2_kind cX2_kind 1 (some .int) :: wA
abbrev wmX0_countKind : List Cond := Cond.code yX0_countKind cX0_countKind 4 (some .int) :: wA
abbrev wmX2_a : List Cond := Cond.code yX2_a cX2_a 1 (some .int) :: wA
abbrev wmX0_isOnOneWire : List Cond := Cond.code yX0_isOnOneWire cX0_isOnOneWire 2 (some .boolean) :: wA
abbrev wmX0_countInverted : List Cond := Cond.code yX0_countInverted cX0_countInverted 1 (some .int) :: wA
abbrev wmX2_wiresOf : List Cond := Cond.code yX2_wiresOf cX2_wiresOf 1 (some .int) :: wA
abbrev wmX2_of : List Cond := Cond.code yX2_of cX2_of 5 (some .int) :: wA
abbrev wmX0_addOn : List Cond := Cond.code yX0_addOn cX0_addOn 3 none :: wA
abbrev wmX0_addBackTurn : List Cond := Cond.code yX0_addBackTurn cX0_addBackTurn 2 none :: wA
abbrev wmX0_addInverted : List Cond := Cond.code yX0_addInverted cX0_addInverted 5 none :: wA
abbrev wmX0_countExpanded : List Cond := Cond.code yX0_countExpanded cX0_countExpanded 1 (some .int) :: wA
abbrev wmX2_b : List Cond := Cond.code yX2_b cX2_b 1 (some .int) :: wA
abbrev wmX2_c : List Cond := Cond.code yX2_c cX2_c 1 (some .int) :: wA
abbrev wmX0_addControlled : List Cond := Cond.code yX0_addControlled cX0_addControlled 3 none :: wA
abbrev wmX0_addParts : List Cond := Cond.code yX0_addParts cX0_addParts 4 none :: wA
abbrev wmX0_addExpanded : List Cond := Cond.code yX0_addExpanded cX0_addExpanded 4 none :: wA
abbrev wmX2_wireBits : List Cond := Cond.code yX2_wireBits cX2_wireBits 2 (some .int) :: wA
abbrev wmX2_meet : List Cond := Cond.code yX2_meet cX2_meet 3 (some .boolean) :: wA
abbrev wmX2_turns : List Cond := Cond.code yX2_turns cX2_turns 2 (some .int) :: wA
abbrev wmX2_onlyTurns : List Cond := Cond.code yX2_onlyTurns cX2_onlyTurns 1 (some .boolean) :: wA
abbrev wmX2_controlBits : List Cond := Cond.code yX2_controlBits cX2_controlBits 2 (some .int) :: wA
abbrev wmX2_targetBit : List Cond := Cond.code yX2_targetBit cX2_targetBit 2 (some .int) :: wA
abbrev wmX2_slipsBy : List Cond := Cond.code yX2_slipsBy cX2_slipsBy 3 (some .boolean) :: wA
abbrev wmX2_pass : List Cond := Cond.code yX2_pass cX2_pass 2 (some .boolean) :: wA
abbrev wmX0_partnerOf : List Cond := Cond.code yX0_partnerOf cX0_partnerOf 3 (some .int) :: wA
abbrev wmX2_united : List Cond := Cond.code yX2_united cX2_united 2 (some .int) :: wA
abbrev wmX0_removeAt : List Cond := Cond.code yX0_removeAt cX0_removeAt 3 none :: wA
abbrev wmX0_unite : List Cond := Cond.code yX0_unite cX0_unite 4 none :: wA
abbrev wmX0_rewriteOne : List Cond := Cond.code yX0_rewriteOne cX0_rewriteOne 3 (some .boolean) :: wA
abbrev wmX0_rewriteAll : List Cond := Cond.code yX0_rewriteAll cX0_rewriteAll 3 none :: wA
abbrev wmX1_init : List Cond := Cond.code yX1_init cX1_init 1 none :: wA
abbrev wmX1_exponent : List Cond := Cond.code yX1_exponent cX1_exponent 1 (some .int) :: wA
abbrev wmX1_part : List Cond := Cond.code yX1_part cX1_part 4 (some .long) :: wA
abbrev wmJ7_fill_d0a16 : List Cond := Cond.code yJ7_fill_d0a16 cJ7_fill_d0a16 5 none :: wA
abbrev wmX1_timesRoot : List Cond := Cond.code yX1_timesRoot cX1_timesRoot 10 none :: wA
abbrev wmX1_raise : List Cond := Cond.code yX1_raise cX1_raise 2 none :: wA
abbrev wmX1_mixPair : List Cond := Cond.code yX1_mixPair cX1_mixPair 6 none :: wA
abbrev wmX1_mix : List Cond := Cond.code yX1_mix cX1_mix 3 none :: wA
abbrev wmX1_exchange : List Cond := Cond.code yX1_exchange cX1_exchange 6 none :: wA
abbrev wmX1_trade : List Cond := Cond.code yX1_trade cX1_trade 4 none :: wA
abbrev wmX2_flips : List Cond := Cond.code yX2_flips cX2_flips 2 (some .boolean) :: wA
abbrev wmX1_flip : List Cond := Cond.code yX1_flip cX1_flip 4 none :: wA
abbrev wmX1_turnOne : List Cond := Cond.code yX1_turnOne cX1_turnOne 6 none :: wA
abbrev wmX1_turn : List Cond := Cond.code yX1_turn cX1_turn 4 none :: wA
abbrev wmX1_apply : List Cond := Cond.code yX1_apply cX1_apply 3 none :: wA
abbrev wmX1_run : List Cond := Cond.code yX1_run cX1_run 6 none :: wA
abbrev wmX1_canBeDivided : List Cond := Cond.code yX1_canBeDivided cX1_canBeDivided 5 (some .boolean) :: wA
abbrev wmX1_divide : List Cond := Cond.code yX1_divide cX1_divide 4 none :: wA
abbrev wmX1_lower : List Cond := Cond.code yX1_lower cX1_lower 1 none :: wA
abbrev wmX1_firstDifference : List Cond := Cond.code yX1_firstDifference cX1_firstDifference 4 (some .int) :: wA
abbrev wmX1_isTurned : List Cond := Cond.code yX1_isTurned cX1_isTurned 8 (some .boolean) :: wA
abbrev wmX1_weightWhole : List Cond := Cond.code yX1_weightWhole cX1_weightWhole 7 (some .long) :: wA
abbrev wmX1_weightRoot : List Cond := Cond.code yX1_weightRoot cX1_weightRoot 7 (some .long) :: wA
abbrev wmX1_hasAny : List Cond := Cond.code yX1_hasAny cX1_hasAny 4 (some .boolean) :: wA
abbrev wmX1_keepOnly : List Cond := Cond.code yX1_keepOnly cX1_keepOnly 4 none :: wA
abbrev wmX2_canStand : List Cond := Cond.code yX2_canStand cX2_canStand 6 (some .boolean) :: wA
abbrev wmX3_init : List Cond := Cond.code yX3_init cX3_init 1 none :: wA
abbrev wmX3_imageOfZ : List Cond := Cond.code yX3_imageOfZ cX3_imageOfZ 1 (some .int) :: wA
abbrev wmX3_headOf : List Cond := Cond.code yX3_headOf cX3_headOf 2 (some .int) :: wA
abbrev wmX3_image : List Cond := Cond.code yX3_image cX3_image 4 (some .int) :: wA
abbrev wmX3_product : List Cond := Cond.code yX3_product cX3_product 4 (some .int) :: wA
abbrev wmX3_rotationBackOfHead : List Cond := Cond.code yX3_rotationBackOfHead cX3_rotationBackOfHead 1 (some .int) :: wA
abbrev wmX3_rotationOfHead : List Cond := Cond.code yX3_rotationOfHead cX3_rotationOfHead 1 (some .int) :: wA
abbrev wmX3_takeT : List Cond := Cond.code yX3_takeT cX3_takeT 3 none :: wA
abbrev wmX3_rotationOf : List Cond := Cond.code yX3_rotationOf cX3_rotationOf 1 (some .int) :: wA
abbrev wmX3_rotationOfWord : List Cond := Cond.code yX3_rotationOfWord cX3_rotationOfWord 3 (some .int) :: wA
abbrev wmX3_wordOf : List Cond := Cond.code yX3_wordOf cX3_wordOf 2 (some .int) :: wA
abbrev wmX3_take : List Cond := Cond.code yX3_take cX3_take 4 none :: wA
abbrev wmX3_countT : List Cond := Cond.code yX3_countT cX3_countT 1 (some .int) :: wA
abbrev wmX3_countGates : List Cond := Cond.code yX3_countGates cX3_countGates 3 (some .int) :: wA
abbrev wmX3_addTo : List Cond := Cond.code yX3_addTo cX3_addTo 5 none :: wA
abbrev wmX4_init : List Cond := Cond.code yX4_init cX4_init 1 none :: wA
abbrev wmX4_begin : List Cond := Cond.code yX4_begin cX4_begin 2 none :: wA
abbrev wmX4_bit : List Cond := Cond.code yX4_bit cX4_bit 2 (some .int) :: wA
abbrev wmX4_passH : List Cond := Cond.code yX4_passH cX4_passH 3 none :: wA
abbrev wmX4_passCX : List Cond := Cond.code yX4_passCX cX4_passCX 3 none :: wA
abbrev wmX4_traded : List Cond := Cond.code yX4_traded cX4_traded 4 (some .int) :: wA
abbrev wmX4_pass : List Cond := Cond.code yX4_pass cX4_pass 4 none :: wA
abbrev wmX4_digits : List Cond := Cond.code yX4_digits cX4_digits 4 (some .int) :: wA
abbrev wmX5_init : List Cond := Cond.code yX5_init cX5_init 1 none :: wA
abbrev wmX5_count : List Cond := Cond.code yX5_count cX5_count 1 (some .int) :: wA
abbrev wmX5_at : List Cond := Cond.code yX5_at cX5_at 2 (some .int) :: wA
abbrev wmX5_removeAll : List Cond := Cond.code yX5_removeAll cX5_removeAll 1 none :: wA
abbrev wmX5_byteAt : List Cond := Cond.code yX5_byteAt cX5_byteAt 3 (some .int) :: wA
abbrev wmX5_put : List Cond := Cond.code yX5_put cX5_put 2 none :: wA
abbrev wmX5_addBytes : List Cond := Cond.code yX5_addBytes cX5_addBytes 6 (some .boolean) :: wA
abbrev wmJ0_coder_7d493 : List Cond := Cond.code yJ0_coder_7d493 cJ0_coder_7d493 1 (some .byte) :: wA
abbrev wmJ0_length_8abf5 : List Cond := Cond.code yJ0_length_8abf5 cJ0_length_8abf5 1 (some .int) :: wA
abbrev wmJ0_isLatin1_aae02 : List Cond := Cond.code yJ0_isLatin1_aae02 cJ0_isLatin1_aae02 1 (some .boolean) :: wA
abbrev wmJ3_checkIndex_8e157 : List Cond := Cond.code yJ3_checkIndex_8e157 cJ3_checkIndex_8e157 3 (some .int) :: wA
abbrev wmJ0_checkIndex_df160 : List Cond := Cond.code yJ0_checkIndex_df160 cJ0_checkIndex_df160 2 none :: wA
abbrev wmJ1_charAt_3b067 : List Cond := Cond.code yJ1_charAt_3b067 cJ1_charAt_3b067 2 (some .char) :: wA
abbrev wmJ2_length_9d52b : List Cond := Cond.code yJ2_length_9d52b cJ2_length_9d52b 1 (some .int) :: wA
abbrev wmJ2_checkIndex_2214a : List Cond := Cond.code yJ2_checkIndex_2214a cJ2_checkIndex_2214a 2 none :: wA
abbrev wmJ2_getChar_3b067 : List Cond := Cond.code yJ2_getChar_3b067 cJ2_getChar_3b067 2 (some .char) :: wA
abbrev wmJ2_charAt_3b067 : List Cond := Cond.code yJ2_charAt_3b067 cJ2_charAt_3b067 2 (some .char) :: wA
abbrev wmJ0_charAt_5068e : List Cond := Cond.code yJ0_charAt_5068e cJ0_charAt_5068e 2 (some .char) :: wA
abbrev wmX5_writeGate : List Cond := Cond.code yX5_writeGate cX5_writeGate 5 none :: wA
abbrev wmX5_write : List Cond := Cond.code yX5_write cX5_write 3 none :: wA
abbrev wmJ1_canEncode_9a6ad : List Cond := Cond.code yJ1_canEncode_9a6ad cJ1_canEncode_9a6ad 1 (some .boolean) :: wA
abbrev wmJ1_indexOfChar_4cfef : List Cond := Cond.code yJ1_indexOfChar_4cfef cJ1_indexOfChar_4cfef 6 (some .int) :: wA
abbrev wmJ1_indexOf_4cfef : List Cond := Cond.code yJ1_indexOf_4cfef cJ1_indexOf_4cfef 4 (some .int) :: wA
abbrev wmJ3_checkFromToIndex_8c36e : List Cond := Cond.code yJ3_checkFromToIndex_8c36e cJ3_checkFromToIndex_8c36e 4 (some .int) :: wA
abbrev wmJ0_checkBoundsBeginEnd_23922 : List Cond := Cond.code yJ0_checkBoundsBeginEnd_23922 cJ0_checkBoundsBeginEnd_23922 3 none :: wA
abbrev wmJ2_checkBoundsBeginEnd_d044e : List Cond := Cond.code yJ2_checkBoundsBeginEnd_d044e cJ2_checkBoundsBeginEnd_d044e 3 none :: wA
abbrev wmJ2_indexOfCharUnsafe_4cfef : List Cond := Cond.code yJ2_indexOfCharUnsafe_4cfef cJ2_indexOfCharUnsafe_4cfef 5 (some .int) :: wA
abbrev wmJ2_indexOfChar_4cfef : List Cond := Cond.code yJ2_indexOfChar_4cfef cJ2_indexOfChar_4cfef 4 (some .int) :: wA
abbrev wmJ11_isValidCodePoint_9a6ad : List Cond := Cond.code yJ11_isValidCodePoint_9a6ad cJ11_isValidCodePoint_9a6ad 2 (some .boolean) :: wA
abbrev wmJ11_highSurrogate_5068e : List Cond := Cond.code yJ11_highSurrogate_5068e cJ11_highSurrogate_5068e 1 (some .char) :: wA
abbrev wmJ11_lowSurrogate_5068e : List Cond := Cond.code yJ11_lowSurrogate_5068e cJ11_lowSurrogate_5068e 1 (some .char) :: wA
abbrev wmJ2_indexOfSupplementary_4cfef : List Cond := Cond.code yJ2_indexOfSupplementary_4cfef cJ2_indexOfSupplementary_4cfef 7 (some .int) :: wA
abbrev wmJ2_indexOf_4cfef : List Cond := Cond.code yJ2_indexOf_4cfef cJ2_indexOf_4cfef 4 (some .int) :: wA
abbrev wmJ0_indexOf_7cf53 : List Cond := Cond.code yJ0_indexOf_7cf53 cJ0_indexOf_7cf53 3 (some .int) :: wA
abbrev wmJ0_indexOf_0f7a4 : List Cond := Cond.code yJ0_indexOf_0f7a4 cJ0_indexOf_0f7a4 2 (some .int) :: wA
abbrev wmX5_parseGate : List Cond := Cond.code yX5_parseGate cX5_parseGate 8 (some .int) :: wA
abbrev wmX5_parse : List Cond := Cond.code yX5_parse cX5_parse 5 (some .int) :: wA
abbrev wmX6_init : List Cond := Cond.code yX6_init cX6_init 1 none :: wA
abbrev wmX6_wires : List Cond := Cond.code yX6_wires cX6_wires 2 none :: wA
abbrev wmX6_inSlot : List Cond := Cond.code yX6_inSlot cX6_inSlot 2 (some (.object "RingCircuits$Circuit")) :: wA
abbrev wmX6_gate : List Cond := Cond.code yX6_gate cX6_gate 7 (some .int) :: wA
abbrev wmX6_size : List Cond := Cond.code yX6_size cX6_size 3 (some .int) :: wA
abbrev wmX6_gateAt : List Cond := Cond.code yX6_gateAt cX6_gateAt 4 (some .int) :: wA
abbrev wmX6_clear : List Cond := Cond.code yX6_clear cX6_clear 3 none :: wA
abbrev wmX6_append : List Cond := Cond.code yX6_append cX6_append 5 (some .int) :: wA
abbrev wmX6_inverse : List Cond := Cond.code yX6_inverse cX6_inverse 3 (some .int) :: wA
abbrev wmX6_expand : List Cond := Cond.code yX6_expand cX6_expand 3 (some .int) :: wA
abbrev wmX6_optimise : List Cond := Cond.code yX6_optimise cX6_optimise 3 (some .int) :: wA
abbrev wmX6_runBoth : List Cond := Cond.code yX6_runBoth cX6_runBoth 5 none :: wA
abbrev wmX6_firstTurn : List Cond := Cond.code yX6_firstTurn cX6_firstTurn 4 (some .int) :: wA
abbrev wmX6_least : List Cond := Cond.code yX6_least cX6_least 3 (some .int) :: wA
abbrev wmX6_basisStates : List Cond := Cond.code yX6_basisStates cX6_basisStates 1 (some .int) :: wA
abbrev wmX6_isTurned : List Cond := Cond.code yX6_isTurned cX6_isTurned 5 (some .boolean) :: wA
abbrev wmX6_equal : List Cond := Cond.code yX6_equal cX6_equal 6 (some .int) :: wA
abbrev wmX6_phase : List Cond := Cond.code yX6_phase cX6_phase 1 (some .int) :: wA
abbrev wmX6_differ : List Cond := Cond.code yX6_differ cX6_differ 7 (some .int) :: wA
abbrev wmX6_state : List Cond := Cond.code yX6_state cX6_state 3 (some .int) :: wA
abbrev wmX6_amplitude : List Cond := Cond.code yX6_amplitude cX6_amplitude 3 (some .long) :: wA
abbrev wmX6_scale : List Cond := Cond.code yX6_scale cX6_scale 1 (some .int) :: wA
abbrev wmX6_isWire : List Cond := Cond.code yX6_isWire cX6_isWire 2 (some .boolean) :: wA
abbrev wmX6_weight : List Cond := Cond.code yX6_weight cX6_weight 4 (some .long) :: wA
abbrev wmX6_measure : List Cond := Cond.code yX6_measure cX6_measure 3 (some .boolean) :: wA
abbrev wmX6_row : List Cond := Cond.code yX6_row cX6_row 5 (some .int) :: wA
abbrev wmX6_type : List Cond := Cond.code yX6_type cX6_type 4 (some .int) :: wA
abbrev wmX6_print : List Cond := Cond.code yX6_print cX6_print 3 (some .int) :: wA
abbrev wmX6_character : List Cond := Cond.code yX6_character cX6_character 2 (some .int) :: wA
abbrev wmX6_read : List Cond := Cond.code yX6_read cX6_read 4 (some .int) :: wA
abbrev wmX6_place : List Cond := Cond.code yX6_place cX6_place 1 (some .int) :: wA
abbrev wmX7_init : List Cond := Cond.code yX7_init cX7_init 1 none :: wA
abbrev wmX7_thrown : List Cond := Cond.code yX7_thrown cX7_thrown 1 (some .int) :: wA
abbrev wmX7_in : List Cond := Cond.code yX7_in cX7_in 6 (some .boolean) :: wA
abbrev wmX7_isSlot : List Cond := Cond.code yX7_isSlot cX7_isSlot 1 (some .boolean) :: wA
abbrev wmX7_wires : List Cond := Cond.code yX7_wires cX7_wires 3 none :: wA
abbrev wmX7_needs : List Cond := Cond.code yX7_needs cX7_needs 1 (some .int) :: wA
abbrev wmX7_put : List Cond := Cond.code yX7_put cX7_put 7 none :: wA
abbrev wmX7_isWire : List Cond := Cond.code yX7_isWire cX7_isWire 2 (some .boolean) :: wA
abbrev wmX7_isGate : List Cond := Cond.code yX7_isGate cX7_isGate 5 (some .boolean) :: wA
abbrev wmX7_gate : List Cond := Cond.code yX7_gate cX7_gate 6 (some .int) :: wA
abbrev wmX7_size : List Cond := Cond.code yX7_size cX7_size 2 (some .int) :: wA
abbrev wmX7_gateAt : List Cond := Cond.code yX7_gateAt cX7_gateAt 4 (some .int) :: wA
abbrev wmX7_clear : List Cond := Cond.code yX7_clear cX7_clear 2 none :: wA
abbrev wmX7_copyGate : List Cond := Cond.code yX7_copyGate cX7_copyGate 3 none :: wA
abbrev wmX7_copy : List Cond := Cond.code yX7_copy cX7_copy 4 none :: wA
abbrev wmX7_append : List Cond := Cond.code yX7_append cX7_append 5 (some .int) :: wA
abbrev wmX7_turnsOf : List Cond := Cond.code yX7_turnsOf cX7_turnsOf 2 (some .int) :: wA
abbrev wmX7_inverse : List Cond := Cond.code yX7_inverse cX7_inverse 5 (some .int) :: wA
abbrev wmX7_putBack : List Cond := Cond.code yX7_putBack cX7_putBack 2 none :: wA
abbrev wmX7_expandOne : List Cond := Cond.code yX7_expandOne cX7_expandOne 4 none :: wA
abbrev wmX7_expand : List Cond := Cond.code yX7_expand cX7_expand 5 (some .int) :: wA
abbrev wmX7_samePair : List Cond := Cond.code yX7_samePair cX7_samePair 3 (some .boolean) :: wA
abbrev wmX7_cancels : List Cond := Cond.code yX7_cancels cX7_cancels 3 (some .boolean) :: wA
abbrev wmX7_together : List Cond := Cond.code yX7_together cX7_together 6 (some .int) :: wA
abbrev wmX7_has : List Cond := Cond.code yX7_has cX7_has 3 (some .boolean) :: wA
abbrev wmX7_shares : List Cond := Cond.code yX7_shares cX7_shares 3 (some .boolean) :: wA
abbrev wmX7_isStraight : List Cond := Cond.code yX7_isStraight cX7_isStraight 2 (some .boolean) :: wA
abbrev wmX7_goesBy : List Cond := Cond.code yX7_goesBy cX7_goesBy 7 (some .boolean) :: wA
abbrev wmX7_passes : List Cond := Cond.code yX7_passes cX7_passes 3 (some .boolean) :: wA
abbrev wmX7_remove : List Cond := Cond.code yX7_remove cX7_remove 5 none :: wA
abbrev wmX7_meetOnce : List Cond := Cond.code yX7_meetOnce cX7_meetOnce 8 (some .boolean) :: wA
abbrev wmX7_optimise : List Cond := Cond.code yX7_optimise cX7_optimise 3 (some .int) :: wA
abbrev wmX7_basis : List Cond := Cond.code yX7_basis cX7_basis 1 (some .int) :: wA
abbrev wmX7_turn : List Cond := Cond.code yX7_turn cX7_turn 6 none :: wA
abbrev wmX7_grow : List Cond := Cond.code yX7_grow cX7_grow 10 none :: wA
abbrev wmX7_change : List Cond := Cond.code yX7_change cX7_change 6 none :: wA
abbrev wmX7_mix : List Cond := Cond.code yX7_mix cX7_mix 8 none :: wA
abbrev wmX7_bit : List Cond := Cond.code yX7_bit cX7_bit 2 (some .boolean) :: wA
abbrev wmX7_act : List Cond := Cond.code yX7_act cX7_act 7 none :: wA
abbrev wmX7_column : List Cond := Cond.code yX7_column cX7_column 6 (some .int) :: wA
abbrev wmX7_both : List Cond := Cond.code yX7_both cX7_both 5 none :: wA
abbrev wmX7_isTurned : List Cond := Cond.code yX7_isTurned cX7_isTurned 8 (some .boolean) :: wA
abbrev wmX7_equal : List Cond := Cond.code yX7_equal cX7_equal 4 (some .int) :: wA
abbrev wmX7_phase : List Cond := Cond.code yX7_phase cX7_phase 1 (some .int) :: wA
abbrev wmX7_differ : List Cond := Cond.code yX7_differ cX7_differ 6 (some .int) :: wA
abbrev wmX7_size2 : List Cond := Cond.code yX7_size2 cX7_size2 1 (some .int) :: wA
abbrev wmX7_product : List Cond := Cond.code yX7_product cX7_product 7 (some .int) :: wA
abbrev wmX7_image : List Cond := Cond.code yX7_image cX7_image 3 (some .int) :: wA
abbrev wmX7_joinLeft : List Cond := Cond.code yX7_joinLeft cX7_joinLeft 1 none :: wA
abbrev wmX7_setLeft : List Cond := Cond.code yX7_setLeft cX7_setLeft 2 none :: wA
abbrev wmX7_joinBackS : List Cond := Cond.code yX7_joinBackS cX7_joinBackS 1 none :: wA
abbrev wmX7_timesRight : List Cond := Cond.code yX7_timesRight cX7_timesRight 2 none :: wA
abbrev wmX7_carry : List Cond := Cond.code yX7_carry cX7_carry 6 none :: wA
abbrev wmX7_addRound : List Cond := Cond.code yX7_addRound cX7_addRound 2 none :: wA
abbrev wmX7_dropRound : List Cond := Cond.code yX7_dropRound cX7_dropRound 2 none :: wA
abbrev wmX7_takeGate : List Cond := Cond.code yX7_takeGate cX7_takeGate 2 none :: wA
abbrev wmX7_findElement : List Cond := Cond.code yX7_findElement cX7_findElement 4 (some .int) :: wA
abbrev wmX7_findWords : List Cond := Cond.code yX7_findWords cX7_findWords 3 none :: wA
abbrev wmX7_putWord : List Cond := Cond.code yX7_putWord cX7_putWord 7 none :: wA
abbrev wmX7_least : List Cond := Cond.code yX7_least cX7_least 6 (some .int) :: wA
abbrev wmX7_lower : List Cond := Cond.code yX7_lower cX7_lower 4 none :: wA
abbrev wmX7_state : List Cond := Cond.code yX7_state cX7_state 2 (some .int) :: wA
abbrev wmX7_amplitude : List Cond := Cond.code yX7_amplitude cX7_amplitude 3 (some .long) :: wA
abbrev wmX7_scale : List Cond := Cond.code yX7_scale cX7_scale 1 (some .int) :: wA
abbrev wmX7_weight : List Cond := Cond.code yX7_weight cX7_weight 15 (some .long) :: wA
abbrev wmX7_measure : List Cond := Cond.code yX7_measure cX7_measure 5 (some .boolean) :: wA
abbrev wmX7_row : List Cond := Cond.code yX7_row cX7_row 14 (some .int) :: wA
abbrev wmX7_type : List Cond := Cond.code yX7_type cX7_type 5 (some .int) :: wA
abbrev wmX7_letterOf : List Cond := Cond.code yX7_letterOf cX7_letterOf 1 (some .int) :: wA
abbrev wmX7_say : List Cond := Cond.code yX7_say cX7_say 2 none :: wA
abbrev wmX7_print : List Cond := Cond.code yX7_print cX7_print 4 (some .int) :: wA
abbrev wmX7_character : List Cond := Cond.code yX7_character cX7_character 2 (some .int) :: wA
abbrev wmX7_kindAt : List Cond := Cond.code yX7_kindAt cX7_kindAt 3 (some .int) :: wA
abbrev wmX7_wireAt : List Cond := Cond.code yX7_wireAt cX7_wireAt 3 (some .int) :: wA
abbrev wmX7_readGate : List Cond := Cond.code yX7_readGate cX7_readGate 6 (some .int) :: wA
abbrev wmX7_read : List Cond := Cond.code yX7_read cX7_read 4 (some .int) :: wA
abbrev wmX7_place : List Cond := Cond.code yX7_place cX7_place 1 (some .int) :: wA
abbrev wmJ9_max_7cf53 : List Cond := Cond.code yJ9_max_7cf53 cJ9_max_7cf53 2 (some .int) :: wA
abbrev wmJ9_min_7cf53 : List Cond := Cond.code yJ9_min_7cf53 cJ9_min_7cf53 2 (some .int) :: wA
abbrev wmL_wires : List Cond := Cond.codeWith yL_wires cL_wires 3 (some .int) [(0, 5, 8, 13)] :: wA
abbrev wmL_gate : List Cond := Cond.codeWith yL_gate cL_gate 8 (some .int) [(0, 16, 19, 13), (0, 16, 23, 19)] :: wA
abbrev wmL_clear : List Cond := Cond.codeWith yL_clear cL_clear 3 (some .int) [(0, 5, 8, 13)] :: wA
abbrev wmL_append : List Cond := Cond.codeWith yL_append cL_append 5 (some .int) [(0, 10, 13, 13), (0, 10, 17, 19)] :: wA
abbrev wmL_inverse : List Cond := Cond.codeWith yL_inverse cL_inverse 4 (some .int) [(0, 9, 12, 13), (0, 9, 15, 19)] :: wA
abbrev wmL_expand : List Cond := Cond.codeWith yL_expand cL_expand 4 (some .int) [(0, 9, 12, 13), (0, 9, 15, 19)] :: wA
abbrev wmL_optimise : List Cond := Cond.codeWith yL_optimise cL_optimise 4 (some .int) [(0, 9, 12, 13)] :: wA
abbrev wmL_least : List Cond := Cond.codeWith yL_least cL_least 4 (some .int) [(0, 9, 12, 13), (0, 9, 15, 19)] :: wA
abbrev wmL_equal : List Cond := Cond.codeWith yL_equal cL_equal 5 (some .int) [(0, 10, 13, 13)] :: wA
abbrev wmL_differ : List Cond := Cond.codeWith yL_differ cL_differ 5 (some .int) [(0, 10, 13, 13)] :: wA
abbrev wmL_state : List Cond := Cond.codeWith yL_state cL_state 4 (some .int) [(0, 9, 12, 13)] :: wA
abbrev wmL_amplitude : List Cond := Cond.codeWith yL_amplitude cL_amplitude 5 (some .int) [(0, 9, 12, 19), (0, 9, 16, 54)] :: wA
abbrev wmL_weight : List Cond := Cond.codeWith yL_weight cL_weight 6 (some .int) [(0, 11, 14, 19), (0, 11, 18, 54)] :: wA
abbrev wmL_measure : List Cond := Cond.codeWith yL_measure cL_measure 5 (some .int) [(0, 17, 20, 19), (0, 17, 24, 54)] :: wA
abbrev wmL_row : List Cond := Cond.codeWith yL_row cL_row 5 (some .int) [(0, 10, 13, 13), (0, 10, 17, 19)] :: wA
abbrev wmL_print : List Cond := Cond.codeWith yL_print cL_print 4 (some .int) [(0, 9, 12, 13)] :: wA
abbrev wmL_read : List Cond := Cond.codeWith yL_read cL_read 4 (some .int) [(0, 9, 12, 13)] :: wA
/-! THE CLAIM OUT OF ONE WALK OF THE LAW'S BODY. Your part is whole_start (and what it stands on); all else here is the same for every law, but numbers. -/
def R_law : String := "RingCircuitsLaw"
def lw_P (b : Addr) (xs : List Int32) (args : Array Value) (s : State) : Prop := args = #[.ref b] ∧ s.IntsAt b xs ∧ xs.length ≤ 384 ∧ (Jvm.Cond.and given_1 narrow_1).before args s = true
def lw_Q (_ : Array Value) (s : State) (o : Outcome) (t : State) : Prop := o = .returned (some (.int 1)) ∧ Framed s o t [] 191 4384
def lw_Z (below : List Frame) (a : Array Value) (s : State) : State → Prop := fun t => ∃ o, t.status = .running ∧ Ended t below o ∧ lw_Q a s o t
/-- the law's own end, with 1 on the stack, nothing written that was there before, its room as the claim has it -/
theorem lw_ret {p : Program} {l : Launch} {e : Env} {s : State} {m : MethodId} {below : List Frame} {meth : Method} {c : Code} {b : Nat} (hx : p.tables.exec = Jvm.exec) (hb : c.code = code) (hr : meth.sig.returnType = ret) (hlocks : meth.locks = false) {pc : Nat} {H : Heap} {ls : Array Slot} (hdg : decode code pc = .ok (.ireturn, 1)) : W p l e room_1 s m #[Value.ref b] below meth c H [] 191 4384 (lw_Z below #[Value.ref b] s) (F0 m pc ls [.int 1]) := by
  intro T hT X
  obtain ⟨fs, hret, hrun, hended, hW, hframe⟩ := X.leave (v := some (.int 1)) (hlocks := hlocks) (fun h => by rw [hr] at h; cases h)
  have hmeth' : T.vm.method? m = some meth := X.method'
  refine ⟨T.setFrames fs, ?_, .returned (some (.int 1)), hrun, hended, rfl, ⟨_, rfl⟩, hW, hframe⟩
  jvm_step X.here [X.here.top, hx, hb, hdg, hmeth', hr, ret, narrow_b1]
  (try refine ⟨rfl, ?_⟩); (try refine ⟨rfl, ?_⟩)
  first | (intro acts; rw [hret _ acts rfl rfl rfl]) | rw [hret _ _ rfl rfl rfl]
  exact Steps.refl _
/-- what holds at the law's entry: the machine, the code, the tables' words (any of lw_tbl by 'hts w (by decide +kernel)'), the script of L ints xs at the cell b, what the Statement gives of the start (any of its parts by flat_of_before) -/
def lw_At (p : Program) (s : State) (m : MethodId) (meth : Method) (c : Code) (b L : Nat) (xs : Nat → Int32) : Prop :=
  p.tables.exec = Jvm.exec ∧ c.code = code ∧ meth.sig.returnType = ret ∧ c.maxLocals = 8 ∧ s.vm.findClass R_law = some m.cls ∧ (∀ w ∈ lw_tbl, w.before #[Value.ref b] s = true) ∧ va_X b L xs s s.heap ∧ b < s.heap.size ∧ meth.locks = false ∧ (Jvm.Cond.and given_1 narrow_1).before #[Value.ref b] s = true
