-- ===== PART A: goes FIRST, ahead of the names: the tables' words, and 'selects' of the private methods out of them =====
/-- a private method of a class that the tables say can be made, by its rows of tables_1 -/
def lw_okq (q : MethodName × Nat) : Prop := (q.1.cls ≠ "java/lang/invoke/MethodHandle" ∧ q.1.cls ≠ "java/lang/invoke/VarHandle") ∧ Cond.instantiable q.1.cls q.2 ∈ tables_1 ∧ Cond.privateMethod q.1 ∈ tables_1 ∧ Cond.instanceMethod q.1 ∈ tables_1
theorem lw_p0 : lw_okq (⟨"CalledRiver", "refuse", "(I)I"⟩, 19) := ⟨⟨by decide +kernel, by decide +kernel⟩, List.mem_of_getElem? (i := 23) (by decide +kernel), List.mem_of_getElem? (i := 452) (by decide +kernel), List.mem_of_getElem? (i := 453) (by decide +kernel)⟩
theorem lw_p1 : lw_okq (⟨"CalledRiver$PlainReader", "readSides", "()V"⟩, 4) := ⟨⟨by decide +kernel, by decide +kernel⟩, List.mem_of_getElem? (i := 210) (by decide +kernel), List.mem_of_getElem? (i := 495) (by decide +kernel), List.mem_of_getElem? (i := 496) (by decide +kernel)⟩
theorem lw_p2 : lw_okq (⟨"CalledRiver$Tape", "isSpelled", "(Ljava/lang/String;I)Z"⟩, 7) := ⟨⟨by decide +kernel, by decide +kernel⟩, List.mem_of_getElem? (i := 31) (by decide +kernel), List.mem_of_getElem? (i := 556) (by decide +kernel), List.mem_of_getElem? (i := 557) (by decide +kernel)⟩
theorem lw_p3 : lw_okq (⟨"CalledRiver$PlainReader", "hasMore", "()Z"⟩, 4) := ⟨⟨by decide +kernel, by decide +kernel⟩, List.mem_of_getElem? (i := 210) (by decide +kernel), List.mem_of_getElem? (i := 577) (by decide +kernel), List.mem_of_getElem? (i := 578) (by decide +kernel)⟩
theorem lw_p4 : lw_okq (⟨"CalledRiver$PlainReader", "readStatement", "()V"⟩, 4) := ⟨⟨by decide +kernel, by decide +kernel⟩, List.mem_of_getElem? (i := 210) (by decide +kernel), List.mem_of_getElem? (i := 581) (by decide +kernel), List.mem_of_getElem? (i := 582) (by decide +kernel)⟩
theorem lw_p5 : lw_okq (⟨"CalledRiver$PlainReader", "isFull", "(I)Z"⟩, 4) := ⟨⟨by decide +kernel, by decide +kernel⟩, List.mem_of_getElem? (i := 210) (by decide +kernel), List.mem_of_getElem? (i := 587) (by decide +kernel), List.mem_of_getElem? (i := 588) (by decide +kernel)⟩
theorem lw_p6 : lw_okq (⟨"CalledRiver$PlainReader", "readHigh", "()V"⟩, 4) := ⟨⟨by decide +kernel, by decide +kernel⟩, List.mem_of_getElem? (i := 210) (by decide +kernel), List.mem_of_getElem? (i := 597) (by decide +kernel), List.mem_of_getElem? (i := 598) (by decide +kernel)⟩
theorem lw_p7 : lw_okq (⟨"CalledRiver$PlainReader", "readPlace", "()I"⟩, 4) := ⟨⟨by decide +kernel, by decide +kernel⟩, List.mem_of_getElem? (i := 210) (by decide +kernel), List.mem_of_getElem? (i := 601) (by decide +kernel), List.mem_of_getElem? (i := 602) (by decide +kernel)⟩
theorem lw_p8 : lw_okq (⟨"CalledRiver$PlainReader", "readStone", "()V"⟩, 4) := ⟨⟨by decide +kernel, by decide +kernel⟩, List.mem_of_getElem? (i := 210) (by decide +kernel), List.mem_of_getElem? (i := 605) (by decide +kernel), List.mem_of_getElem? (i := 606) (by decide +kernel)⟩
theorem lw_p9 : lw_okq (⟨"CalledRiver$PlainReader", "readFarm", "()V"⟩, 4) := ⟨⟨by decide +kernel, by decide +kernel⟩, List.mem_of_getElem? (i := 210) (by decide +kernel), List.mem_of_getElem? (i := 609) (by decide +kernel), List.mem_of_getElem? (i := 610) (by decide +kernel)⟩
theorem lw_p10 : lw_okq (⟨"CalledRiver$PlainReader", "readNewName", "()I"⟩, 4) := ⟨⟨by decide +kernel, by decide +kernel⟩, List.mem_of_getElem? (i := 210) (by decide +kernel), List.mem_of_getElem? (i := 613) (by decide +kernel), List.mem_of_getElem? (i := 614) (by decide +kernel)⟩
theorem lw_p11 : lw_okq (⟨"CalledRiver$PlainReader", "readCaller", "()V"⟩, 4) := ⟨⟨by decide +kernel, by decide +kernel⟩, List.mem_of_getElem? (i := 210) (by decide +kernel), List.mem_of_getElem? (i := 629) (by decide +kernel), List.mem_of_getElem? (i := 630) (by decide +kernel)⟩
theorem lw_p12 : lw_okq (⟨"CalledRiver$SumReader", "begin", "(ILCalledRiver$Code;)V"⟩, 3) := ⟨⟨by decide +kernel, by decide +kernel⟩, List.mem_of_getElem? (i := 87) (by decide +kernel), List.mem_of_getElem? (i := 639) (by decide +kernel), List.mem_of_getElem? (i := 640) (by decide +kernel)⟩
theorem lw_p13 : lw_okq (⟨"CalledRiver$SumReader", "readSum", "(I)V"⟩, 3) := ⟨⟨by decide +kernel, by decide +kernel⟩, List.mem_of_getElem? (i := 87) (by decide +kernel), List.mem_of_getElem? (i := 644) (by decide +kernel), List.mem_of_getElem? (i := 645) (by decide +kernel)⟩
theorem lw_p14 : lw_okq (⟨"CalledRiver$SumReader", "readProduct", "(I)V"⟩, 3) := ⟨⟨by decide +kernel, by decide +kernel⟩, List.mem_of_getElem? (i := 87) (by decide +kernel), List.mem_of_getElem? (i := 648) (by decide +kernel), List.mem_of_getElem? (i := 649) (by decide +kernel)⟩
theorem lw_p15 : lw_okq (⟨"CalledRiver$SumReader", "readPart", "(I)V"⟩, 3) := ⟨⟨by decide +kernel, by decide +kernel⟩, List.mem_of_getElem? (i := 87) (by decide +kernel), List.mem_of_getElem? (i := 652) (by decide +kernel), List.mem_of_getElem? (i := 653) (by decide +kernel)⟩
def lw_privs_1 : List (MethodName × Nat) := [(⟨"CalledRiver", "refuse", "(I)I"⟩, 19), (⟨"CalledRiver$PlainReader", "readSides", "()V"⟩, 4), (⟨"CalledRiver$Tape", "isSpelled", "(Ljava/lang/String;I)Z"⟩, 7), (⟨"CalledRiver$PlainReader", "hasMore", "()Z"⟩, 4), (⟨"CalledRiver$PlainReader", "readStatement", "()V"⟩, 4), (⟨"CalledRiver$PlainReader", "isFull", "(I)Z"⟩, 4), (⟨"CalledRiver$PlainReader", "readHigh", "()V"⟩, 4), (⟨"CalledRiver$PlainReader", "readPlace", "()I"⟩, 4), (⟨"CalledRiver$PlainReader", "readStone", "()V"⟩, 4), (⟨"CalledRiver$PlainReader", "readFarm", "()V"⟩, 4), (⟨"CalledRiver$PlainReader", "readNewName", "()I"⟩, 4), (⟨"CalledRiver$PlainReader", "readCaller", "()V"⟩, 4), (⟨"CalledRiver$SumReader", "begin", "(ILCalledRiver$Code;)V"⟩, 3), (⟨"CalledRiver$SumReader", "readSum", "(I)V"⟩, 3), (⟨"CalledRiver$SumReader", "readProduct", "(I)V"⟩, 3), (⟨"CalledRiver$SumReader", "readPart", "(I)V"⟩, 3)]
theorem lw_r1 : ∀ q ∈ lw_privs_1, lw_okq q := List.forall_mem_cons.mpr ⟨lw_p0, List.forall_mem_cons.mpr ⟨lw_p1, List.forall_mem_cons.mpr ⟨lw_p2, List.forall_mem_cons.mpr ⟨lw_p3, List.forall_mem_cons.mpr ⟨lw_p4, List.forall_mem_cons.mpr ⟨lw_p5, List.forall_mem_cons.mpr ⟨lw_p6, List.forall_mem_cons.mpr ⟨lw_p7, List.forall_mem_cons.mpr ⟨lw_p8, List.forall_mem_cons.mpr ⟨lw_p9, List.forall_mem_cons.mpr ⟨lw_p10, List.forall_mem_cons.mpr ⟨lw_p11, List.forall_mem_cons.mpr ⟨lw_p12, List.forall_mem_cons.mpr ⟨lw_p13, List.forall_mem_cons.mpr ⟨lw_p14, List.forall_mem_cons.mpr ⟨lw_p15, fun _ h => absurd h List.not_mem_nil⟩⟩⟩⟩⟩⟩⟩⟩⟩⟩⟩⟩⟩⟩⟩⟩
theorem lw_p16 : lw_okq (⟨"CalledRiver$SumReader", "opens", "(I)Z"⟩, 3) := ⟨⟨by decide +kernel, by decide +kernel⟩, List.mem_of_getElem? (i := 87) (by decide +kernel), List.mem_of_getElem? (i := 662) (by decide +kernel), List.mem_of_getElem? (i := 663) (by decide +kernel)⟩
theorem lw_p17 : lw_okq (⟨"CalledRiver$SumReader", "readPair", "(I)V"⟩, 3) := ⟨⟨by decide +kernel, by decide +kernel⟩, List.mem_of_getElem? (i := 87) (by decide +kernel), List.mem_of_getElem? (i := 671) (by decide +kernel), List.mem_of_getElem? (i := 672) (by decide +kernel)⟩
theorem lw_p18 : lw_okq (⟨"CalledRiver$SumReader", "readOfCaller", "(I)V"⟩, 3) := ⟨⟨by decide +kernel, by decide +kernel⟩, List.mem_of_getElem? (i := 87) (by decide +kernel), List.mem_of_getElem? (i := 677) (by decide +kernel), List.mem_of_getElem? (i := 678) (by decide +kernel)⟩
theorem lw_p19 : lw_okq (⟨"CalledRiver$SumReader", "readNamedFact", "()V"⟩, 3) := ⟨⟨by decide +kernel, by decide +kernel⟩, List.mem_of_getElem? (i := 87) (by decide +kernel), List.mem_of_getElem? (i := 682) (by decide +kernel), List.mem_of_getElem? (i := 683) (by decide +kernel)⟩
theorem lw_p20 : lw_okq (⟨"CalledRiver$PlainReader", "addMissingSums", "()V"⟩, 4) := ⟨⟨by decide +kernel, by decide +kernel⟩, List.mem_of_getElem? (i := 210) (by decide +kernel), List.mem_of_getElem? (i := 687) (by decide +kernel), List.mem_of_getElem? (i := 688) (by decide +kernel)⟩
theorem lw_p21 : lw_okq (⟨"CalledRiver", "forgetWays", "()V"⟩, 19) := ⟨⟨by decide +kernel, by decide +kernel⟩, List.mem_of_getElem? (i := 23) (by decide +kernel), List.mem_of_getElem? (i := 704) (by decide +kernel), List.mem_of_getElem? (i := 705) (by decide +kernel)⟩
theorem lw_p22 : lw_okq (⟨"CalledRiver", "wayOf", "(I)LCalledRiver$Way;"⟩, 19) := ⟨⟨by decide +kernel, by decide +kernel⟩, List.mem_of_getElem? (i := 23) (by decide +kernel), List.mem_of_getElem? (i := 777) (by decide +kernel), List.mem_of_getElem? (i := 778) (by decide +kernel)⟩
theorem lw_p23 : lw_okq (⟨"CalledRiver$Way", "enter", "(LCalledRiver$Plain;II)V"⟩, 7) := ⟨⟨by decide +kernel, by decide +kernel⟩, List.mem_of_getElem? (i := 338) (by decide +kernel), List.mem_of_getElem? (i := 785) (by decide +kernel), List.mem_of_getElem? (i := 786) (by decide +kernel)⟩
theorem lw_p24 : lw_okq (⟨"CalledRiver$Way", "nextPlace", "(LCalledRiver$Plain;LCalledRiver$Land;I)I"⟩, 7) := ⟨⟨by decide +kernel, by decide +kernel⟩, List.mem_of_getElem? (i := 338) (by decide +kernel), List.mem_of_getElem? (i := 790) (by decide +kernel), List.mem_of_getElem? (i := 791) (by decide +kernel)⟩
theorem lw_p25 : lw_okq (⟨"CalledRiver", "placePart", "(II)I"⟩, 19) := ⟨⟨by decide +kernel, by decide +kernel⟩, List.mem_of_getElem? (i := 23) (by decide +kernel), List.mem_of_getElem? (i := 837) (by decide +kernel), List.mem_of_getElem? (i := 838) (by decide +kernel)⟩
theorem lw_p26 : lw_okq (⟨"CalledRiver$Led", "reach", "(LCalledRiver$Plain;III)V"⟩, 4) := ⟨⟨by decide +kernel, by decide +kernel⟩, List.mem_of_getElem? (i := 301) (by decide +kernel), List.mem_of_getElem? (i := 868) (by decide +kernel), List.mem_of_getElem? (i := 869) (by decide +kernel)⟩
theorem lw_p27 : lw_okq (⟨"CalledRiver$Led", "goOn", "(LCalledRiver$Plain;LCalledRiver$Land;I)V"⟩, 4) := ⟨⟨by decide +kernel, by decide +kernel⟩, List.mem_of_getElem? (i := 301) (by decide +kernel), List.mem_of_getElem? (i := 872) (by decide +kernel), List.mem_of_getElem? (i := 873) (by decide +kernel)⟩
theorem lw_p28 : lw_okq (⟨"CalledRiver", "waterBySets", "(I)V"⟩, 19) := ⟨⟨by decide +kernel, by decide +kernel⟩, List.mem_of_getElem? (i := 23) (by decide +kernel), List.mem_of_getElem? (i := 903) (by decide +kernel), List.mem_of_getElem? (i := 904) (by decide +kernel)⟩
theorem lw_p29 : lw_okq (⟨"CalledRiver", "pieIn", "(II)I"⟩, 19) := ⟨⟨by decide +kernel, by decide +kernel⟩, List.mem_of_getElem? (i := 23) (by decide +kernel), List.mem_of_getElem? (i := 907) (by decide +kernel), List.mem_of_getElem? (i := 908) (by decide +kernel)⟩
theorem lw_p30 : lw_okq (⟨"CalledRiver", "isAtRest", "(I)Z"⟩, 19) := ⟨⟨by decide +kernel, by decide +kernel⟩, List.mem_of_getElem? (i := 23) (by decide +kernel), List.mem_of_getElem? (i := 911) (by decide +kernel), List.mem_of_getElem? (i := 912) (by decide +kernel)⟩
theorem lw_p31 : lw_okq (⟨"CalledRiver", "welfare", "(II)I"⟩, 19) := ⟨⟨by decide +kernel, by decide +kernel⟩, List.mem_of_getElem? (i := 23) (by decide +kernel), List.mem_of_getElem? (i := 915) (by decide +kernel), List.mem_of_getElem? (i := 916) (by decide +kernel)⟩
def lw_privs_2 : List (MethodName × Nat) := [(⟨"CalledRiver$SumReader", "opens", "(I)Z"⟩, 3), (⟨"CalledRiver$SumReader", "readPair", "(I)V"⟩, 3), (⟨"CalledRiver$SumReader", "readOfCaller", "(I)V"⟩, 3), (⟨"CalledRiver$SumReader", "readNamedFact", "()V"⟩, 3), (⟨"CalledRiver$PlainReader", "addMissingSums", "()V"⟩, 4), (⟨"CalledRiver", "forgetWays", "()V"⟩, 19), (⟨"CalledRiver", "wayOf", "(I)LCalledRiver$Way;"⟩, 19), (⟨"CalledRiver$Way", "enter", "(LCalledRiver$Plain;II)V"⟩, 7), (⟨"CalledRiver$Way", "nextPlace", "(LCalledRiver$Plain;LCalledRiver$Land;I)I"⟩, 7), (⟨"CalledRiver", "placePart", "(II)I"⟩, 19), (⟨"CalledRiver$Led", "reach", "(LCalledRiver$Plain;III)V"⟩, 4), (⟨"CalledRiver$Led", "goOn", "(LCalledRiver$Plain;LCalledRiver$Land;I)V"⟩, 4), (⟨"CalledRiver", "waterBySets", "(I)V"⟩, 19), (⟨"CalledRiver", "pieIn", "(II)I"⟩, 19), (⟨"CalledRiver", "isAtRest", "(I)Z"⟩, 19), (⟨"CalledRiver", "welfare", "(II)I"⟩, 19)]
theorem lw_r2 : ∀ q ∈ lw_privs_2, lw_okq q := List.forall_mem_cons.mpr ⟨lw_p16, List.forall_mem_cons.mpr ⟨lw_p17, List.forall_mem_cons.mpr ⟨lw_p18, List.forall_mem_cons.mpr ⟨lw_p19, List.forall_mem_cons.mpr ⟨lw_p20, List.forall_mem_cons.mpr ⟨lw_p21, List.forall_mem_cons.mpr ⟨lw_p22, List.forall_mem_cons.mpr ⟨lw_p23, List.forall_mem_cons.mpr ⟨lw_p24, List.forall_mem_cons.mpr ⟨lw_p25, List.forall_mem_cons.mpr ⟨lw_p26, List.forall_mem_cons.mpr ⟨lw_p27, List.forall_mem_cons.mpr ⟨lw_p28, List.forall_mem_cons.mpr ⟨lw_p29, List.forall_mem_cons.mpr ⟨lw_p30, List.forall_mem_cons.mpr ⟨lw_p31, fun _ h => absurd h List.not_mem_nil⟩⟩⟩⟩⟩⟩⟩⟩⟩⟩⟩⟩⟩⟩⟩⟩
theorem lw_p32 : lw_okq (⟨"CalledRiver", "waysThrough", "(I)I"⟩, 19) := ⟨⟨by decide +kernel, by decide +kernel⟩, List.mem_of_getElem? (i := 23) (by decide +kernel), List.mem_of_getElem? (i := 940) (by decide +kernel), List.mem_of_getElem? (i := 941) (by decide +kernel)⟩
theorem lw_p33 : lw_okq (⟨"CalledRiver", "callersLeft", "()I"⟩, 19) := ⟨⟨by decide +kernel, by decide +kernel⟩, List.mem_of_getElem? (i := 23) (by decide +kernel), List.mem_of_getElem? (i := 960) (by decide +kernel), List.mem_of_getElem? (i := 961) (by decide +kernel)⟩
theorem lw_p34 : lw_okq (⟨"CalledRiver", "mostLeftBy", "(II)I"⟩, 19) := ⟨⟨by decide +kernel, by decide +kernel⟩, List.mem_of_getElem? (i := 23) (by decide +kernel), List.mem_of_getElem? (i := 973) (by decide +kernel), List.mem_of_getElem? (i := 974) (by decide +kernel)⟩
theorem lw_p35 : lw_okq (⟨"CalledRiver", "passYear", "(I)I"⟩, 19) := ⟨⟨by decide +kernel, by decide +kernel⟩, List.mem_of_getElem? (i := 23) (by decide +kernel), List.mem_of_getElem? (i := 989) (by decide +kernel), List.mem_of_getElem? (i := 990) (by decide +kernel)⟩
theorem lw_p36 : lw_okq (⟨"CalledRiver", "drawCaller", "()I"⟩, 19) := ⟨⟨by decide +kernel, by decide +kernel⟩, List.mem_of_getElem? (i := 23) (by decide +kernel), List.mem_of_getElem? (i := 1014) (by decide +kernel), List.mem_of_getElem? (i := 1015) (by decide +kernel)⟩
theorem lw_p37 : lw_okq (⟨"CalledRiver$SumReader", "readTest", "(I)V"⟩, 3) := ⟨⟨by decide +kernel, by decide +kernel⟩, List.mem_of_getElem? (i := 87) (by decide +kernel), List.mem_of_getElem? (i := 1045) (by decide +kernel), List.mem_of_getElem? (i := 1046) (by decide +kernel)⟩
theorem lw_p38 : lw_okq (⟨"CalledRiver$SumReader", "readBoth", "(I)V"⟩, 3) := ⟨⟨by decide +kernel, by decide +kernel⟩, List.mem_of_getElem? (i := 87) (by decide +kernel), List.mem_of_getElem? (i := 1049) (by decide +kernel), List.mem_of_getElem? (i := 1050) (by decide +kernel)⟩
theorem lw_p39 : lw_okq (⟨"CalledRiver$SumReader", "readFact", "(I)V"⟩, 3) := ⟨⟨by decide +kernel, by decide +kernel⟩, List.mem_of_getElem? (i := 87) (by decide +kernel), List.mem_of_getElem? (i := 1053) (by decide +kernel), List.mem_of_getElem? (i := 1054) (by decide +kernel)⟩
theorem lw_p40 : lw_okq (⟨"CalledRiver$SumReader", "readComparison", "(I)V"⟩, 3) := ⟨⟨by decide +kernel, by decide +kernel⟩, List.mem_of_getElem? (i := 87) (by decide +kernel), List.mem_of_getElem? (i := 1059) (by decide +kernel), List.mem_of_getElem? (i := 1060) (by decide +kernel)⟩
theorem lw_p41 : lw_okq (⟨"CalledRiver", "answerTo", "(I)J"⟩, 19) := ⟨⟨by decide +kernel, by decide +kernel⟩, List.mem_of_getElem? (i := 23) (by decide +kernel), List.mem_of_getElem? (i := 1065) (by decide +kernel), List.mem_of_getElem? (i := 1066) (by decide +kernel)⟩
theorem lw_p42 : lw_okq (⟨"CalledRiver", "gatherFacts", "(I)V"⟩, 19) := ⟨⟨by decide +kernel, by decide +kernel⟩, List.mem_of_getElem? (i := 23) (by decide +kernel), List.mem_of_getElem? (i := 1070) (by decide +kernel), List.mem_of_getElem? (i := 1071) (by decide +kernel)⟩
theorem lw_p43 : lw_okq (⟨"CalledRiverModel", "plainTold", "()V"⟩, 120) := ⟨⟨by decide +kernel, by decide +kernel⟩, List.mem_of_getElem? (i := 1109) (by decide +kernel), List.mem_of_getElem? (i := 1491) (by decide +kernel), List.mem_of_getElem? (i := 1492) (by decide +kernel)⟩
theorem lw_p44 : lw_okq (⟨"CalledRiverModel", "asks", "([C)V"⟩, 120) := ⟨⟨by decide +kernel, by decide +kernel⟩, List.mem_of_getElem? (i := 1109) (by decide +kernel), List.mem_of_getElem? (i := 1495) (by decide +kernel), List.mem_of_getElem? (i := 1496) (by decide +kernel)⟩
theorem lw_p45 : lw_okq (⟨"CalledRiverModel", "takes", "([C)Z"⟩, 120) := ⟨⟨by decide +kernel, by decide +kernel⟩, List.mem_of_getElem? (i := 1109) (by decide +kernel), List.mem_of_getElem? (i := 1499) (by decide +kernel), List.mem_of_getElem? (i := 1500) (by decide +kernel)⟩
theorem lw_p46 : lw_okq (⟨"CalledRiverModel", "isHere", "([C)Z"⟩, 120) := ⟨⟨by decide +kernel, by decide +kernel⟩, List.mem_of_getElem? (i := 1109) (by decide +kernel), List.mem_of_getElem? (i := 1503) (by decide +kernel), List.mem_of_getElem? (i := 1504) (by decide +kernel)⟩
theorem lw_p47 : lw_okq (⟨"CalledRiverModel", "look", "()I"⟩, 120) := ⟨⟨by decide +kernel, by decide +kernel⟩, List.mem_of_getElem? (i := 1109) (by decide +kernel), List.mem_of_getElem? (i := 1507) (by decide +kernel), List.mem_of_getElem? (i := 1508) (by decide +kernel)⟩
def lw_privs_3 : List (MethodName × Nat) := [(⟨"CalledRiver", "waysThrough", "(I)I"⟩, 19), (⟨"CalledRiver", "callersLeft", "()I"⟩, 19), (⟨"CalledRiver", "mostLeftBy", "(II)I"⟩, 19), (⟨"CalledRiver", "passYear", "(I)I"⟩, 19), (⟨"CalledRiver", "drawCaller", "()I"⟩, 19), (⟨"CalledRiver$SumReader", "readTest", "(I)V"⟩, 3), (⟨"CalledRiver$SumReader", "readBoth", "(I)V"⟩, 3), (⟨"CalledRiver$SumReader", "readFact", "(I)V"⟩, 3), (⟨"CalledRiver$SumReader", "readComparison", "(I)V"⟩, 3), (⟨"CalledRiver", "answerTo", "(I)J"⟩, 19), (⟨"CalledRiver", "gatherFacts", "(I)V"⟩, 19), (⟨"CalledRiverModel", "plainTold", "()V"⟩, 120), (⟨"CalledRiverModel", "asks", "([C)V"⟩, 120), (⟨"CalledRiverModel", "takes", "([C)Z"⟩, 120), (⟨"CalledRiverModel", "isHere", "([C)Z"⟩, 120), (⟨"CalledRiverModel", "look", "()I"⟩, 120)]
theorem lw_r3 : ∀ q ∈ lw_privs_3, lw_okq q := List.forall_mem_cons.mpr ⟨lw_p32, List.forall_mem_cons.mpr ⟨lw_p33, List.forall_mem_cons.mpr ⟨lw_p34, List.forall_mem_cons.mpr ⟨lw_p35, List.forall_mem_cons.mpr ⟨lw_p36, List.forall_mem_cons.mpr ⟨lw_p37, List.forall_mem_cons.mpr ⟨lw_p38, List.forall_mem_cons.mpr ⟨lw_p39, List.forall_mem_cons.mpr ⟨lw_p40, List.forall_mem_cons.mpr ⟨lw_p41, List.forall_mem_cons.mpr ⟨lw_p42, List.forall_mem_cons.mpr ⟨lw_p43, List.forall_mem_cons.mpr ⟨lw_p44, List.forall_mem_cons.mpr ⟨lw_p45, List.forall_mem_cons.mpr ⟨lw_p46, List.forall_mem_cons.mpr ⟨lw_p47, fun _ h => absurd h List.not_mem_nil⟩⟩⟩⟩⟩⟩⟩⟩⟩⟩⟩⟩⟩⟩⟩⟩
theorem lw_p48 : lw_okq (⟨"CalledRiverModel", "fail", "(II)V"⟩, 120) := ⟨⟨by decide +kernel, by decide +kernel⟩, List.mem_of_getElem? (i := 1109) (by decide +kernel), List.mem_of_getElem? (i := 1514) (by decide +kernel), List.mem_of_getElem? (i := 1515) (by decide +kernel)⟩
theorem lw_p49 : lw_okq (⟨"CalledRiverModel", "number", "(II)I"⟩, 120) := ⟨⟨by decide +kernel, by decide +kernel⟩, List.mem_of_getElem? (i := 1109) (by decide +kernel), List.mem_of_getElem? (i := 1518) (by decide +kernel), List.mem_of_getElem? (i := 1519) (by decide +kernel)⟩
theorem lw_p50 : lw_okq (⟨"CalledRiverModel", "asksSign", "(I)V"⟩, 120) := ⟨⟨by decide +kernel, by decide +kernel⟩, List.mem_of_getElem? (i := 1109) (by decide +kernel), List.mem_of_getElem? (i := 1528) (by decide +kernel), List.mem_of_getElem? (i := 1529) (by decide +kernel)⟩
theorem lw_p51 : lw_okq (⟨"CalledRiverModel", "takesSign", "(I)Z"⟩, 120) := ⟨⟨by decide +kernel, by decide +kernel⟩, List.mem_of_getElem? (i := 1109) (by decide +kernel), List.mem_of_getElem? (i := 1532) (by decide +kernel), List.mem_of_getElem? (i := 1533) (by decide +kernel)⟩
theorem lw_p52 : lw_okq (⟨"CalledRiverModel", "statementTold", "()V"⟩, 120) := ⟨⟨by decide +kernel, by decide +kernel⟩, List.mem_of_getElem? (i := 1109) (by decide +kernel), List.mem_of_getElem? (i := 1536) (by decide +kernel), List.mem_of_getElem? (i := 1537) (by decide +kernel)⟩
theorem lw_p53 : lw_okq (⟨"CalledRiverModel", "highTold", "()V"⟩, 120) := ⟨⟨by decide +kernel, by decide +kernel⟩, List.mem_of_getElem? (i := 1109) (by decide +kernel), List.mem_of_getElem? (i := 1540) (by decide +kernel), List.mem_of_getElem? (i := 1541) (by decide +kernel)⟩
theorem lw_p54 : lw_okq (⟨"CalledRiverModel", "cellTold", "()I"⟩, 120) := ⟨⟨by decide +kernel, by decide +kernel⟩, List.mem_of_getElem? (i := 1109) (by decide +kernel), List.mem_of_getElem? (i := 1544) (by decide +kernel), List.mem_of_getElem? (i := 1545) (by decide +kernel)⟩
theorem lw_p55 : lw_okq (⟨"CalledRiverModel", "stoneTold", "()V"⟩, 120) := ⟨⟨by decide +kernel, by decide +kernel⟩, List.mem_of_getElem? (i := 1109) (by decide +kernel), List.mem_of_getElem? (i := 1548) (by decide +kernel), List.mem_of_getElem? (i := 1549) (by decide +kernel)⟩
theorem lw_p56 : lw_okq (⟨"CalledRiverModel", "farmTold", "(I)V"⟩, 120) := ⟨⟨by decide +kernel, by decide +kernel⟩, List.mem_of_getElem? (i := 1109) (by decide +kernel), List.mem_of_getElem? (i := 1552) (by decide +kernel), List.mem_of_getElem? (i := 1553) (by decide +kernel)⟩
theorem lw_p57 : lw_okq (⟨"CalledRiverModel", "isFull", "(III)Z"⟩, 120) := ⟨⟨by decide +kernel, by decide +kernel⟩, List.mem_of_getElem? (i := 1109) (by decide +kernel), List.mem_of_getElem? (i := 1556) (by decide +kernel), List.mem_of_getElem? (i := 1557) (by decide +kernel)⟩
theorem lw_p58 : lw_okq (⟨"CalledRiverModel", "newName", "()J"⟩, 120) := ⟨⟨by decide +kernel, by decide +kernel⟩, List.mem_of_getElem? (i := 1109) (by decide +kernel), List.mem_of_getElem? (i := 1560) (by decide +kernel), List.mem_of_getElem? (i := 1561) (by decide +kernel)⟩
theorem lw_p59 : lw_okq (⟨"CalledRiverModel", "name", "()J"⟩, 120) := ⟨⟨by decide +kernel, by decide +kernel⟩, List.mem_of_getElem? (i := 1109) (by decide +kernel), List.mem_of_getElem? (i := 1564) (by decide +kernel), List.mem_of_getElem? (i := 1565) (by decide +kernel)⟩
theorem lw_p60 : lw_okq (⟨"CalledRiverModel", "isOwnHere", "()Z"⟩, 120) := ⟨⟨by decide +kernel, by decide +kernel⟩, List.mem_of_getElem? (i := 1109) (by decide +kernel), List.mem_of_getElem? (i := 1568) (by decide +kernel), List.mem_of_getElem? (i := 1569) (by decide +kernel)⟩
theorem lw_p61 : lw_okq (⟨"CalledRiverModel", "callerTold", "(I)V"⟩, 120) := ⟨⟨by decide +kernel, by decide +kernel⟩, List.mem_of_getElem? (i := 1109) (by decide +kernel), List.mem_of_getElem? (i := 1574) (by decide +kernel), List.mem_of_getElem? (i := 1575) (by decide +kernel)⟩
theorem lw_p62 : lw_okq (⟨"CalledRiverModel", "codesTold", "(II)V"⟩, 120) := ⟨⟨by decide +kernel, by decide +kernel⟩, List.mem_of_getElem? (i := 1109) (by decide +kernel), List.mem_of_getElem? (i := 1578) (by decide +kernel), List.mem_of_getElem? (i := 1579) (by decide +kernel)⟩
theorem lw_p63 : lw_okq (⟨"CalledRiverModel", "qSums", "()V"⟩, 120) := ⟨⟨by decide +kernel, by decide +kernel⟩, List.mem_of_getElem? (i := 1109) (by decide +kernel), List.mem_of_getElem? (i := 1582) (by decide +kernel), List.mem_of_getElem? (i := 1583) (by decide +kernel)⟩
def lw_privs_4 : List (MethodName × Nat) := [(⟨"CalledRiverModel", "fail", "(II)V"⟩, 120), (⟨"CalledRiverModel", "number", "(II)I"⟩, 120), (⟨"CalledRiverModel", "asksSign", "(I)V"⟩, 120), (⟨"CalledRiverModel", "takesSign", "(I)Z"⟩, 120), (⟨"CalledRiverModel", "statementTold", "()V"⟩, 120), (⟨"CalledRiverModel", "highTold", "()V"⟩, 120), (⟨"CalledRiverModel", "cellTold", "()I"⟩, 120), (⟨"CalledRiverModel", "stoneTold", "()V"⟩, 120), (⟨"CalledRiverModel", "farmTold", "(I)V"⟩, 120), (⟨"CalledRiverModel", "isFull", "(III)Z"⟩, 120), (⟨"CalledRiverModel", "newName", "()J"⟩, 120), (⟨"CalledRiverModel", "name", "()J"⟩, 120), (⟨"CalledRiverModel", "isOwnHere", "()Z"⟩, 120), (⟨"CalledRiverModel", "callerTold", "(I)V"⟩, 120), (⟨"CalledRiverModel", "codesTold", "(II)V"⟩, 120), (⟨"CalledRiverModel", "qSums", "()V"⟩, 120)]
theorem lw_r4 : ∀ q ∈ lw_privs_4, lw_okq q := List.forall_mem_cons.mpr ⟨lw_p48, List.forall_mem_cons.mpr ⟨lw_p49, List.forall_mem_cons.mpr ⟨lw_p50, List.forall_mem_cons.mpr ⟨lw_p51, List.forall_mem_cons.mpr ⟨lw_p52, List.forall_mem_cons.mpr ⟨lw_p53, List.forall_mem_cons.mpr ⟨lw_p54, List.forall_mem_cons.mpr ⟨lw_p55, List.forall_mem_cons.mpr ⟨lw_p56, List.forall_mem_cons.mpr ⟨lw_p57, List.forall_mem_cons.mpr ⟨lw_p58, List.forall_mem_cons.mpr ⟨lw_p59, List.forall_mem_cons.mpr ⟨lw_p60, List.forall_mem_cons.mpr ⟨lw_p61, List.forall_mem_cons.mpr ⟨lw_p62, List.forall_mem_cons.mpr ⟨lw_p63, fun _ h => absurd h List.not_mem_nil⟩⟩⟩⟩⟩⟩⟩⟩⟩⟩⟩⟩⟩⟩⟩⟩
theorem lw_p64 : lw_okq (⟨"CalledRiverModel", "qPartTold", "()V"⟩, 120) := ⟨⟨by decide +kernel, by decide +kernel⟩, List.mem_of_getElem? (i := 1109) (by decide +kernel), List.mem_of_getElem? (i := 1586) (by decide +kernel), List.mem_of_getElem? (i := 1587) (by decide +kernel)⟩
theorem lw_p65 : lw_okq (⟨"CalledRiverModel", "qWordOf", "(II)I"⟩, 120) := ⟨⟨by decide +kernel, by decide +kernel⟩, List.mem_of_getElem? (i := 1109) (by decide +kernel), List.mem_of_getElem? (i := 1590) (by decide +kernel), List.mem_of_getElem? (i := 1591) (by decide +kernel)⟩
theorem lw_p66 : lw_okq (⟨"CalledRiverModel", "qWordHere", "()I"⟩, 120) := ⟨⟨by decide +kernel, by decide +kernel⟩, List.mem_of_getElem? (i := 1109) (by decide +kernel), List.mem_of_getElem? (i := 1594) (by decide +kernel), List.mem_of_getElem? (i := 1595) (by decide +kernel)⟩
theorem lw_p67 : lw_okq (⟨"CalledRiverModel", "isAllowed", "(I)Z"⟩, 120) := ⟨⟨by decide +kernel, by decide +kernel⟩, List.mem_of_getElem? (i := 1109) (by decide +kernel), List.mem_of_getElem? (i := 1598) (by decide +kernel), List.mem_of_getElem? (i := 1599) (by decide +kernel)⟩
theorem lw_p68 : lw_okq (⟨"CalledRiverModel", "qOpens", "(II)V"⟩, 120) := ⟨⟨by decide +kernel, by decide +kernel⟩, List.mem_of_getElem? (i := 1109) (by decide +kernel), List.mem_of_getElem? (i := 1602) (by decide +kernel), List.mem_of_getElem? (i := 1603) (by decide +kernel)⟩
theorem lw_p69 : lw_okq (⟨"CalledRiverModel", "qAsksWord", "(I)V"⟩, 120) := ⟨⟨by decide +kernel, by decide +kernel⟩, List.mem_of_getElem? (i := 1109) (by decide +kernel), List.mem_of_getElem? (i := 1606) (by decide +kernel), List.mem_of_getElem? (i := 1607) (by decide +kernel)⟩
theorem lw_p70 : lw_okq (⟨"CalledRiverModel", "qCode", "(I)V"⟩, 120) := ⟨⟨by decide +kernel, by decide +kernel⟩, List.mem_of_getElem? (i := 1109) (by decide +kernel), List.mem_of_getElem? (i := 1610) (by decide +kernel), List.mem_of_getElem? (i := 1611) (by decide +kernel)⟩
theorem lw_p71 : lw_okq (⟨"CalledRiverModel", "qEndsPart", "()V"⟩, 120) := ⟨⟨by decide +kernel, by decide +kernel⟩, List.mem_of_getElem? (i := 1109) (by decide +kernel), List.mem_of_getElem? (i := 1614) (by decide +kernel), List.mem_of_getElem? (i := 1615) (by decide +kernel)⟩
theorem lw_p72 : lw_okq (⟨"CalledRiverModel", "qDrops", "()V"⟩, 120) := ⟨⟨by decide +kernel, by decide +kernel⟩, List.mem_of_getElem? (i := 1109) (by decide +kernel), List.mem_of_getElem? (i := 1618) (by decide +kernel), List.mem_of_getElem? (i := 1619) (by decide +kernel)⟩
theorem lw_p73 : lw_okq (⟨"CalledRiverModel", "qGoesOn", "()Z"⟩, 120) := ⟨⟨by decide +kernel, by decide +kernel⟩, List.mem_of_getElem? (i := 1109) (by decide +kernel), List.mem_of_getElem? (i := 1622) (by decide +kernel), List.mem_of_getElem? (i := 1623) (by decide +kernel)⟩
theorem lw_p74 : lw_okq (⟨"CalledRiverModel", "qBracket", "()I"⟩, 120) := ⟨⟨by decide +kernel, by decide +kernel⟩, List.mem_of_getElem? (i := 1109) (by decide +kernel), List.mem_of_getElem? (i := 1626) (by decide +kernel), List.mem_of_getElem? (i := 1627) (by decide +kernel)⟩
theorem lw_p75 : lw_okq (⟨"CalledRiverModel", "qDropsToBracket", "()V"⟩, 120) := ⟨⟨by decide +kernel, by decide +kernel⟩, List.mem_of_getElem? (i := 1109) (by decide +kernel), List.mem_of_getElem? (i := 1633) (by decide +kernel), List.mem_of_getElem? (i := 1634) (by decide +kernel)⟩
theorem lw_p76 : lw_okq (⟨"CalledRiverModel", "qIsOn", "(I)Z"⟩, 120) := ⟨⟨by decide +kernel, by decide +kernel⟩, List.mem_of_getElem? (i := 1109) (by decide +kernel), List.mem_of_getElem? (i := 1637) (by decide +kernel), List.mem_of_getElem? (i := 1638) (by decide +kernel)⟩
theorem lw_p77 : lw_okq (⟨"CalledRiverModel", "stands", "()V"⟩, 120) := ⟨⟨by decide +kernel, by decide +kernel⟩, List.mem_of_getElem? (i := 1109) (by decide +kernel), List.mem_of_getElem? (i := 1641) (by decide +kernel), List.mem_of_getElem? (i := 1642) (by decide +kernel)⟩
theorem lw_p78 : lw_okq (⟨"CalledRiverModel", "stoneMany", "()I"⟩, 120) := ⟨⟨by decide +kernel, by decide +kernel⟩, List.mem_of_getElem? (i := 1109) (by decide +kernel), List.mem_of_getElem? (i := 1653) (by decide +kernel), List.mem_of_getElem? (i := 1654) (by decide +kernel)⟩
theorem lw_p79 : lw_okq (⟨"CalledRiverModel", "pieAll", "()I"⟩, 120) := ⟨⟨by decide +kernel, by decide +kernel⟩, List.mem_of_getElem? (i := 1109) (by decide +kernel), List.mem_of_getElem? (i := 1657) (by decide +kernel), List.mem_of_getElem? (i := 1658) (by decide +kernel)⟩
def lw_privs_5 : List (MethodName × Nat) := [(⟨"CalledRiverModel", "qPartTold", "()V"⟩, 120), (⟨"CalledRiverModel", "qWordOf", "(II)I"⟩, 120), (⟨"CalledRiverModel", "qWordHere", "()I"⟩, 120), (⟨"CalledRiverModel", "isAllowed", "(I)Z"⟩, 120), (⟨"CalledRiverModel", "qOpens", "(II)V"⟩, 120), (⟨"CalledRiverModel", "qAsksWord", "(I)V"⟩, 120), (⟨"CalledRiverModel", "qCode", "(I)V"⟩, 120), (⟨"CalledRiverModel", "qEndsPart", "()V"⟩, 120), (⟨"CalledRiverModel", "qDrops", "()V"⟩, 120), (⟨"CalledRiverModel", "qGoesOn", "()Z"⟩, 120), (⟨"CalledRiverModel", "qBracket", "()I"⟩, 120), (⟨"CalledRiverModel", "qDropsToBracket", "()V"⟩, 120), (⟨"CalledRiverModel", "qIsOn", "(I)Z"⟩, 120), (⟨"CalledRiverModel", "stands", "()V"⟩, 120), (⟨"CalledRiverModel", "stoneMany", "()I"⟩, 120), (⟨"CalledRiverModel", "pieAll", "()I"⟩, 120)]
theorem lw_r5 : ∀ q ∈ lw_privs_5, lw_okq q := List.forall_mem_cons.mpr ⟨lw_p64, List.forall_mem_cons.mpr ⟨lw_p65, List.forall_mem_cons.mpr ⟨lw_p66, List.forall_mem_cons.mpr ⟨lw_p67, List.forall_mem_cons.mpr ⟨lw_p68, List.forall_mem_cons.mpr ⟨lw_p69, List.forall_mem_cons.mpr ⟨lw_p70, List.forall_mem_cons.mpr ⟨lw_p71, List.forall_mem_cons.mpr ⟨lw_p72, List.forall_mem_cons.mpr ⟨lw_p73, List.forall_mem_cons.mpr ⟨lw_p74, List.forall_mem_cons.mpr ⟨lw_p75, List.forall_mem_cons.mpr ⟨lw_p76, List.forall_mem_cons.mpr ⟨lw_p77, List.forall_mem_cons.mpr ⟨lw_p78, List.forall_mem_cons.mpr ⟨lw_p79, fun _ h => absurd h List.not_mem_nil⟩⟩⟩⟩⟩⟩⟩⟩⟩⟩⟩⟩⟩⟩⟩⟩
theorem lw_p80 : lw_okq (⟨"CalledRiverModel", "farmMany", "()I"⟩, 120) := ⟨⟨by decide +kernel, by decide +kernel⟩, List.mem_of_getElem? (i := 1109) (by decide +kernel), List.mem_of_getElem? (i := 1661) (by decide +kernel), List.mem_of_getElem? (i := 1662) (by decide +kernel)⟩
theorem lw_p81 : lw_okq (⟨"CalledRiverModel", "pieOf", "(I)I"⟩, 120) := ⟨⟨by decide +kernel, by decide +kernel⟩, List.mem_of_getElem? (i := 1109) (by decide +kernel), List.mem_of_getElem? (i := 1665) (by decide +kernel), List.mem_of_getElem? (i := 1666) (by decide +kernel)⟩
theorem lw_p82 : lw_okq (⟨"CalledRiverModel", "cellAt", "(II)I"⟩, 120) := ⟨⟨by decide +kernel, by decide +kernel⟩, List.mem_of_getElem? (i := 1109) (by decide +kernel), List.mem_of_getElem? (i := 1678) (by decide +kernel), List.mem_of_getElem? (i := 1679) (by decide +kernel)⟩
theorem lw_p83 : lw_okq (⟨"CalledRiverModel", "farmAt", "(I)I"⟩, 120) := ⟨⟨by decide +kernel, by decide +kernel⟩, List.mem_of_getElem? (i := 1109) (by decide +kernel), List.mem_of_getElem? (i := 1683) (by decide +kernel), List.mem_of_getElem? (i := 1684) (by decide +kernel)⟩
theorem lw_p84 : lw_okq (⟨"CalledRiverModel", "cellOf", "(I)I"⟩, 120) := ⟨⟨by decide +kernel, by decide +kernel⟩, List.mem_of_getElem? (i := 1109) (by decide +kernel), List.mem_of_getElem? (i := 1687) (by decide +kernel), List.mem_of_getElem? (i := 1688) (by decide +kernel)⟩
theorem lw_p85 : lw_okq (⟨"CalledRiverModel", "isFarm", "(I)Z"⟩, 120) := ⟨⟨by decide +kernel, by decide +kernel⟩, List.mem_of_getElem? (i := 1109) (by decide +kernel), List.mem_of_getElem? (i := 1695) (by decide +kernel), List.mem_of_getElem? (i := 1696) (by decide +kernel)⟩
theorem lw_p86 : lw_okq (⟨"CalledRiverModel", "dayOf", "(I)I"⟩, 120) := ⟨⟨by decide +kernel, by decide +kernel⟩, List.mem_of_getElem? (i := 1109) (by decide +kernel), List.mem_of_getElem? (i := 1699) (by decide +kernel), List.mem_of_getElem? (i := 1700) (by decide +kernel)⟩
theorem lw_p87 : lw_okq (⟨"CalledRiverModel", "isCaller", "(J)Z"⟩, 120) := ⟨⟨by decide +kernel, by decide +kernel⟩, List.mem_of_getElem? (i := 1109) (by decide +kernel), List.mem_of_getElem? (i := 1707) (by decide +kernel), List.mem_of_getElem? (i := 1708) (by decide +kernel)⟩
theorem lw_p88 : lw_okq (⟨"CalledRiverModel", "callerMany", "()I"⟩, 120) := ⟨⟨by decide +kernel, by decide +kernel⟩, List.mem_of_getElem? (i := 1109) (by decide +kernel), List.mem_of_getElem? (i := 1711) (by decide +kernel), List.mem_of_getElem? (i := 1712) (by decide +kernel)⟩
theorem lw_p89 : lw_okq (⟨"CalledRiverModel", "laysWay", "(I)V"⟩, 120) := ⟨⟨by decide +kernel, by decide +kernel⟩, List.mem_of_getElem? (i := 1109) (by decide +kernel), List.mem_of_getElem? (i := 1723) (by decide +kernel), List.mem_of_getElem? (i := 1724) (by decide +kernel)⟩
theorem lw_p90 : lw_okq (⟨"CalledRiverModel", "hasWay", "()Z"⟩, 120) := ⟨⟨by decide +kernel, by decide +kernel⟩, List.mem_of_getElem? (i := 1109) (by decide +kernel), List.mem_of_getElem? (i := 1727) (by decide +kernel), List.mem_of_getElem? (i := 1728) (by decide +kernel)⟩
theorem lw_p91 : lw_okq (⟨"CalledRiverModel", "isStone", "(I)Z"⟩, 120) := ⟨⟨by decide +kernel, by decide +kernel⟩, List.mem_of_getElem? (i := 1109) (by decide +kernel), List.mem_of_getElem? (i := 1731) (by decide +kernel), List.mem_of_getElem? (i := 1732) (by decide +kernel)⟩
theorem lw_p92 : lw_okq (⟨"CalledRiverModel", "nextOf", "(I)I"⟩, 120) := ⟨⟨by decide +kernel, by decide +kernel⟩, List.mem_of_getElem? (i := 1109) (by decide +kernel), List.mem_of_getElem? (i := 1735) (by decide +kernel), List.mem_of_getElem? (i := 1736) (by decide +kernel)⟩
theorem lw_p93 : lw_okq (⟨"CalledRiverModel", "cellMany", "()I"⟩, 120) := ⟨⟨by decide +kernel, by decide +kernel⟩, List.mem_of_getElem? (i := 1109) (by decide +kernel), List.mem_of_getElem? (i := 1739) (by decide +kernel), List.mem_of_getElem? (i := 1740) (by decide +kernel)⟩
theorem lw_p94 : lw_okq (⟨"CalledRiverModel", "cellOfNumber", "(I)I"⟩, 120) := ⟨⟨by decide +kernel, by decide +kernel⟩, List.mem_of_getElem? (i := 1109) (by decide +kernel), List.mem_of_getElem? (i := 1743) (by decide +kernel), List.mem_of_getElem? (i := 1744) (by decide +kernel)⟩
theorem lw_p95 : lw_okq (⟨"CalledRiverModel", "areBeside", "(II)Z"⟩, 120) := ⟨⟨by decide +kernel, by decide +kernel⟩, List.mem_of_getElem? (i := 1109) (by decide +kernel), List.mem_of_getElem? (i := 1747) (by decide +kernel), List.mem_of_getElem? (i := 1748) (by decide +kernel)⟩
def lw_privs_6 : List (MethodName × Nat) := [(⟨"CalledRiverModel", "farmMany", "()I"⟩, 120), (⟨"CalledRiverModel", "pieOf", "(I)I"⟩, 120), (⟨"CalledRiverModel", "cellAt", "(II)I"⟩, 120), (⟨"CalledRiverModel", "farmAt", "(I)I"⟩, 120), (⟨"CalledRiverModel", "cellOf", "(I)I"⟩, 120), (⟨"CalledRiverModel", "isFarm", "(I)Z"⟩, 120), (⟨"CalledRiverModel", "dayOf", "(I)I"⟩, 120), (⟨"CalledRiverModel", "isCaller", "(J)Z"⟩, 120), (⟨"CalledRiverModel", "callerMany", "()I"⟩, 120), (⟨"CalledRiverModel", "laysWay", "(I)V"⟩, 120), (⟨"CalledRiverModel", "hasWay", "()Z"⟩, 120), (⟨"CalledRiverModel", "isStone", "(I)Z"⟩, 120), (⟨"CalledRiverModel", "nextOf", "(I)I"⟩, 120), (⟨"CalledRiverModel", "cellMany", "()I"⟩, 120), (⟨"CalledRiverModel", "cellOfNumber", "(I)I"⟩, 120), (⟨"CalledRiverModel", "areBeside", "(II)Z"⟩, 120)]
theorem lw_r6 : ∀ q ∈ lw_privs_6, lw_okq q := List.forall_mem_cons.mpr ⟨lw_p80, List.forall_mem_cons.mpr ⟨lw_p81, List.forall_mem_cons.mpr ⟨lw_p82, List.forall_mem_cons.mpr ⟨lw_p83, List.forall_mem_cons.mpr ⟨lw_p84, List.forall_mem_cons.mpr ⟨lw_p85, List.forall_mem_cons.mpr ⟨lw_p86, List.forall_mem_cons.mpr ⟨lw_p87, List.forall_mem_cons.mpr ⟨lw_p88, List.forall_mem_cons.mpr ⟨lw_p89, List.forall_mem_cons.mpr ⟨lw_p90, List.forall_mem_cons.mpr ⟨lw_p91, List.forall_mem_cons.mpr ⟨lw_p92, List.forall_mem_cons.mpr ⟨lw_p93, List.forall_mem_cons.mpr ⟨lw_p94, List.forall_mem_cons.mpr ⟨lw_p95, fun _ h => absurd h List.not_mem_nil⟩⟩⟩⟩⟩⟩⟩⟩⟩⟩⟩⟩⟩⟩⟩⟩
theorem lw_p96 : lw_okq (⟨"CalledRiverModel", "beside", "(II)I"⟩, 120) := ⟨⟨by decide +kernel, by decide +kernel⟩, List.mem_of_getElem? (i := 1109) (by decide +kernel), List.mem_of_getElem? (i := 1751) (by decide +kernel), List.mem_of_getElem? (i := 1752) (by decide +kernel)⟩
theorem lw_p97 : lw_okq (⟨"CalledRiverModel", "canFlow", "(II)Z"⟩, 120) := ⟨⟨by decide +kernel, by decide +kernel⟩, List.mem_of_getElem? (i := 1109) (by decide +kernel), List.mem_of_getElem? (i := 1755) (by decide +kernel), List.mem_of_getElem? (i := 1756) (by decide +kernel)⟩
theorem lw_p98 : lw_okq (⟨"CalledRiverModel", "heightOf", "(I)I"⟩, 120) := ⟨⟨by decide +kernel, by decide +kernel⟩, List.mem_of_getElem? (i := 1109) (by decide +kernel), List.mem_of_getElem? (i := 1759) (by decide +kernel), List.mem_of_getElem? (i := 1760) (by decide +kernel)⟩
theorem lw_p99 : lw_okq (⟨"CalledRiverModel", "goesTo", "(II)J"⟩, 120) := ⟨⟨by decide +kernel, by decide +kernel⟩, List.mem_of_getElem? (i := 1109) (by decide +kernel), List.mem_of_getElem? (i := 1763) (by decide +kernel), List.mem_of_getElem? (i := 1764) (by decide +kernel)⟩
theorem lw_p100 : lw_okq (⟨"CalledRiverModel", "codesTell", "(II)J"⟩, 120) := ⟨⟨by decide +kernel, by decide +kernel⟩, List.mem_of_getElem? (i := 1109) (by decide +kernel), List.mem_of_getElem? (i := 1767) (by decide +kernel), List.mem_of_getElem? (i := 1768) (by decide +kernel)⟩
theorem lw_p101 : lw_okq (⟨"CalledRiverModel", "qPuts", "(J)V"⟩, 120) := ⟨⟨by decide +kernel, by decide +kernel⟩, List.mem_of_getElem? (i := 1109) (by decide +kernel), List.mem_of_getElem? (i := 1771) (by decide +kernel), List.mem_of_getElem? (i := 1772) (by decide +kernel)⟩
theorem lw_p102 : lw_okq (⟨"CalledRiverModel", "qPartOf", "(II)J"⟩, 120) := ⟨⟨by decide +kernel, by decide +kernel⟩, List.mem_of_getElem? (i := 1109) (by decide +kernel), List.mem_of_getElem? (i := 1775) (by decide +kernel), List.mem_of_getElem? (i := 1776) (by decide +kernel)⟩
theorem lw_p103 : lw_okq (⟨"CalledRiverModel", "pieAt", "(I)I"⟩, 120) := ⟨⟨by decide +kernel, by decide +kernel⟩, List.mem_of_getElem? (i := 1109) (by decide +kernel), List.mem_of_getElem? (i := 1779) (by decide +kernel), List.mem_of_getElem? (i := 1780) (by decide +kernel)⟩
theorem lw_p104 : lw_okq (⟨"CalledRiverModel", "beenOf", "(I)I"⟩, 120) := ⟨⟨by decide +kernel, by decide +kernel⟩, List.mem_of_getElem? (i := 1109) (by decide +kernel), List.mem_of_getElem? (i := 1783) (by decide +kernel), List.mem_of_getElem? (i := 1784) (by decide +kernel)⟩
theorem lw_p105 : lw_okq (⟨"CalledRiverModel", "qJoins", "(I)V"⟩, 120) := ⟨⟨by decide +kernel, by decide +kernel⟩, List.mem_of_getElem? (i := 1109) (by decide +kernel), List.mem_of_getElem? (i := 1787) (by decide +kernel), List.mem_of_getElem? (i := 1788) (by decide +kernel)⟩
theorem lw_p106 : lw_okq (⟨"CalledRiverModel", "wateredSet", "()I"⟩, 120) := ⟨⟨by decide +kernel, by decide +kernel⟩, List.mem_of_getElem? (i := 1109) (by decide +kernel), List.mem_of_getElem? (i := 1803) (by decide +kernel), List.mem_of_getElem? (i := 1804) (by decide +kernel)⟩
theorem lw_p107 : lw_okq (⟨"CalledRiverModel", "isWatered", "(I)Z"⟩, 120) := ⟨⟨by decide +kernel, by decide +kernel⟩, List.mem_of_getElem? (i := 1109) (by decide +kernel), List.mem_of_getElem? (i := 1807) (by decide +kernel), List.mem_of_getElem? (i := 1808) (by decide +kernel)⟩
theorem lw_p108 : lw_okq (⟨"CalledRiverModel", "isBegun", "()Z"⟩, 120) := ⟨⟨by decide +kernel, by decide +kernel⟩, List.mem_of_getElem? (i := 1109) (by decide +kernel), List.mem_of_getElem? (i := 1822) (by decide +kernel), List.mem_of_getElem? (i := 1823) (by decide +kernel)⟩
theorem lw_p109 : lw_okq (⟨"CalledRiverModel", "setBehind", "(III)I"⟩, 120) := ⟨⟨by decide +kernel, by decide +kernel⟩, List.mem_of_getElem? (i := 1109) (by decide +kernel), List.mem_of_getElem? (i := 1826) (by decide +kernel), List.mem_of_getElem? (i := 1827) (by decide +kernel)⟩
theorem lw_p110 : lw_okq (⟨"CalledRiverModel", "isThere", "(I)Z"⟩, 120) := ⟨⟨by decide +kernel, by decide +kernel⟩, List.mem_of_getElem? (i := 1109) (by decide +kernel), List.mem_of_getElem? (i := 1830) (by decide +kernel), List.mem_of_getElem? (i := 1831) (by decide +kernel)⟩
theorem lw_p111 : lw_okq (⟨"CalledRiverModel", "stepGoes", "(I)V"⟩, 120) := ⟨⟨by decide +kernel, by decide +kernel⟩, List.mem_of_getElem? (i := 1109) (by decide +kernel), List.mem_of_getElem? (i := 1834) (by decide +kernel), List.mem_of_getElem? (i := 1835) (by decide +kernel)⟩
def lw_privs_7 : List (MethodName × Nat) := [(⟨"CalledRiverModel", "beside", "(II)I"⟩, 120), (⟨"CalledRiverModel", "canFlow", "(II)Z"⟩, 120), (⟨"CalledRiverModel", "heightOf", "(I)I"⟩, 120), (⟨"CalledRiverModel", "goesTo", "(II)J"⟩, 120), (⟨"CalledRiverModel", "codesTell", "(II)J"⟩, 120), (⟨"CalledRiverModel", "qPuts", "(J)V"⟩, 120), (⟨"CalledRiverModel", "qPartOf", "(II)J"⟩, 120), (⟨"CalledRiverModel", "pieAt", "(I)I"⟩, 120), (⟨"CalledRiverModel", "beenOf", "(I)I"⟩, 120), (⟨"CalledRiverModel", "qJoins", "(I)V"⟩, 120), (⟨"CalledRiverModel", "wateredSet", "()I"⟩, 120), (⟨"CalledRiverModel", "isWatered", "(I)Z"⟩, 120), (⟨"CalledRiverModel", "isBegun", "()Z"⟩, 120), (⟨"CalledRiverModel", "setBehind", "(III)I"⟩, 120), (⟨"CalledRiverModel", "isThere", "(I)Z"⟩, 120), (⟨"CalledRiverModel", "stepGoes", "(I)V"⟩, 120)]
theorem lw_r7 : ∀ q ∈ lw_privs_7, lw_okq q := List.forall_mem_cons.mpr ⟨lw_p96, List.forall_mem_cons.mpr ⟨lw_p97, List.forall_mem_cons.mpr ⟨lw_p98, List.forall_mem_cons.mpr ⟨lw_p99, List.forall_mem_cons.mpr ⟨lw_p100, List.forall_mem_cons.mpr ⟨lw_p101, List.forall_mem_cons.mpr ⟨lw_p102, List.forall_mem_cons.mpr ⟨lw_p103, List.forall_mem_cons.mpr ⟨lw_p104, List.forall_mem_cons.mpr ⟨lw_p105, List.forall_mem_cons.mpr ⟨lw_p106, List.forall_mem_cons.mpr ⟨lw_p107, List.forall_mem_cons.mpr ⟨lw_p108, List.forall_mem_cons.mpr ⟨lw_p109, List.forall_mem_cons.mpr ⟨lw_p110, List.forall_mem_cons.mpr ⟨lw_p111, fun _ h => absurd h List.not_mem_nil⟩⟩⟩⟩⟩⟩⟩⟩⟩⟩⟩⟩⟩⟩⟩⟩
theorem lw_p112 : lw_okq (⟨"CalledRiverModel", "laysWells", "(I)V"⟩, 120) := ⟨⟨by decide +kernel, by decide +kernel⟩, List.mem_of_getElem? (i := 1109) (by decide +kernel), List.mem_of_getElem? (i := 1850) (by decide +kernel), List.mem_of_getElem? (i := 1851) (by decide +kernel)⟩
theorem lw_p113 : lw_okq (⟨"CalledRiverModel", "isRest", "(I)Z"⟩, 120) := ⟨⟨by decide +kernel, by decide +kernel⟩, List.mem_of_getElem? (i := 1109) (by decide +kernel), List.mem_of_getElem? (i := 1854) (by decide +kernel), List.mem_of_getElem? (i := 1855) (by decide +kernel)⟩
theorem lw_p114 : lw_okq (⟨"CalledRiverModel", "refuses", "(I)I"⟩, 120) := ⟨⟨by decide +kernel, by decide +kernel⟩, List.mem_of_getElem? (i := 1109) (by decide +kernel), List.mem_of_getElem? (i := 1870) (by decide +kernel), List.mem_of_getElem? (i := 1871) (by decide +kernel)⟩
theorem lw_p115 : lw_okq (⟨"CalledRiverModel", "whoCan", "()I"⟩, 120) := ⟨⟨by decide +kernel, by decide +kernel⟩, List.mem_of_getElem? (i := 1109) (by decide +kernel), List.mem_of_getElem? (i := 1878) (by decide +kernel), List.mem_of_getElem? (i := 1879) (by decide +kernel)⟩
theorem lw_p116 : lw_okq (⟨"CalledRiverModel", "laysCells", "()V"⟩, 120) := ⟨⟨by decide +kernel, by decide +kernel⟩, List.mem_of_getElem? (i := 1109) (by decide +kernel), List.mem_of_getElem? (i := 1882) (by decide +kernel), List.mem_of_getElem? (i := 1883) (by decide +kernel)⟩
theorem lw_p117 : lw_okq (⟨"CalledRiverModel", "isAsSeen", "(I)Z"⟩, 120) := ⟨⟨by decide +kernel, by decide +kernel⟩, List.mem_of_getElem? (i := 1109) (by decide +kernel), List.mem_of_getElem? (i := 1886) (by decide +kernel), List.mem_of_getElem? (i := 1887) (by decide +kernel)⟩
theorem lw_p118 : lw_okq (⟨"CalledRiverModel", "mostAlike", "(II)I"⟩, 120) := ⟨⟨by decide +kernel, by decide +kernel⟩, List.mem_of_getElem? (i := 1109) (by decide +kernel), List.mem_of_getElem? (i := 1894) (by decide +kernel), List.mem_of_getElem? (i := 1895) (by decide +kernel)⟩
theorem lw_p119 : lw_okq (⟨"CalledRiverModel", "isAhead", "(III)Z"⟩, 120) := ⟨⟨by decide +kernel, by decide +kernel⟩, List.mem_of_getElem? (i := 1109) (by decide +kernel), List.mem_of_getElem? (i := 1906) (by decide +kernel), List.mem_of_getElem? (i := 1907) (by decide +kernel)⟩
theorem lw_p120 : lw_okq (⟨"CalledRiverModel", "keeps", "()V"⟩, 120) := ⟨⟨by decide +kernel, by decide +kernel⟩, List.mem_of_getElem? (i := 1109) (by decide +kernel), List.mem_of_getElem? (i := 1910) (by decide +kernel), List.mem_of_getElem? (i := 1911) (by decide +kernel)⟩
theorem lw_p121 : lw_okq (⟨"CalledRiverModel", "yearGoes", "(I)I"⟩, 120) := ⟨⟨by decide +kernel, by decide +kernel⟩, List.mem_of_getElem? (i := 1109) (by decide +kernel), List.mem_of_getElem? (i := 1914) (by decide +kernel), List.mem_of_getElem? (i := 1915) (by decide +kernel)⟩
theorem lw_p122 : lw_okq (⟨"CalledRiverModel", "bakedBy", "(I)I"⟩, 120) := ⟨⟨by decide +kernel, by decide +kernel⟩, List.mem_of_getElem? (i := 1109) (by decide +kernel), List.mem_of_getElem? (i := 1918) (by decide +kernel), List.mem_of_getElem? (i := 1919) (by decide +kernel)⟩
theorem lw_p123 : lw_okq (⟨"CalledRiverModel", "isKept", "(II)V"⟩, 120) := ⟨⟨by decide +kernel, by decide +kernel⟩, List.mem_of_getElem? (i := 1109) (by decide +kernel), List.mem_of_getElem? (i := 1923) (by decide +kernel), List.mem_of_getElem? (i := 1924) (by decide +kernel)⟩
theorem lw_p124 : lw_okq (⟨"CalledRiverModel", "isRefused", "()Z"⟩, 120) := ⟨⟨by decide +kernel, by decide +kernel⟩, List.mem_of_getElem? (i := 1109) (by decide +kernel), List.mem_of_getElem? (i := 1931) (by decide +kernel), List.mem_of_getElem? (i := 1932) (by decide +kernel)⟩
theorem lw_p125 : lw_okq (⟨"CalledRiverModel", "drawOf", "(I)I"⟩, 120) := ⟨⟨by decide +kernel, by decide +kernel⟩, List.mem_of_getElem? (i := 1109) (by decide +kernel), List.mem_of_getElem? (i := 1951) (by decide +kernel), List.mem_of_getElem? (i := 1952) (by decide +kernel)⟩
theorem lw_p126 : lw_okq (⟨"CalledRiverModel", "qKind", "()I"⟩, 120) := ⟨⟨by decide +kernel, by decide +kernel⟩, List.mem_of_getElem? (i := 1109) (by decide +kernel), List.mem_of_getElem? (i := 1964) (by decide +kernel), List.mem_of_getElem? (i := 1965) (by decide +kernel)⟩
theorem lw_p127 : lw_okq (⟨"CalledRiverModel", "qTest", "()V"⟩, 120) := ⟨⟨by decide +kernel, by decide +kernel⟩, List.mem_of_getElem? (i := 1109) (by decide +kernel), List.mem_of_getElem? (i := 1968) (by decide +kernel), List.mem_of_getElem? (i := 1969) (by decide +kernel)⟩
def lw_privs_8 : List (MethodName × Nat) := [(⟨"CalledRiverModel", "laysWells", "(I)V"⟩, 120), (⟨"CalledRiverModel", "isRest", "(I)Z"⟩, 120), (⟨"CalledRiverModel", "refuses", "(I)I"⟩, 120), (⟨"CalledRiverModel", "whoCan", "()I"⟩, 120), (⟨"CalledRiverModel", "laysCells", "()V"⟩, 120), (⟨"CalledRiverModel", "isAsSeen", "(I)Z"⟩, 120), (⟨"CalledRiverModel", "mostAlike", "(II)I"⟩, 120), (⟨"CalledRiverModel", "isAhead", "(III)Z"⟩, 120), (⟨"CalledRiverModel", "keeps", "()V"⟩, 120), (⟨"CalledRiverModel", "yearGoes", "(I)I"⟩, 120), (⟨"CalledRiverModel", "bakedBy", "(I)I"⟩, 120), (⟨"CalledRiverModel", "isKept", "(II)V"⟩, 120), (⟨"CalledRiverModel", "isRefused", "()Z"⟩, 120), (⟨"CalledRiverModel", "drawOf", "(I)I"⟩, 120), (⟨"CalledRiverModel", "qKind", "()I"⟩, 120), (⟨"CalledRiverModel", "qTest", "()V"⟩, 120)]
theorem lw_r8 : ∀ q ∈ lw_privs_8, lw_okq q := List.forall_mem_cons.mpr ⟨lw_p112, List.forall_mem_cons.mpr ⟨lw_p113, List.forall_mem_cons.mpr ⟨lw_p114, List.forall_mem_cons.mpr ⟨lw_p115, List.forall_mem_cons.mpr ⟨lw_p116, List.forall_mem_cons.mpr ⟨lw_p117, List.forall_mem_cons.mpr ⟨lw_p118, List.forall_mem_cons.mpr ⟨lw_p119, List.forall_mem_cons.mpr ⟨lw_p120, List.forall_mem_cons.mpr ⟨lw_p121, List.forall_mem_cons.mpr ⟨lw_p122, List.forall_mem_cons.mpr ⟨lw_p123, List.forall_mem_cons.mpr ⟨lw_p124, List.forall_mem_cons.mpr ⟨lw_p125, List.forall_mem_cons.mpr ⟨lw_p126, List.forall_mem_cons.mpr ⟨lw_p127, fun _ h => absurd h List.not_mem_nil⟩⟩⟩⟩⟩⟩⟩⟩⟩⟩⟩⟩⟩⟩⟩⟩
theorem lw_p128 : lw_okq (⟨"CalledRiverModel", "qFact", "()V"⟩, 120) := ⟨⟨by decide +kernel, by decide +kernel⟩, List.mem_of_getElem? (i := 1109) (by decide +kernel), List.mem_of_getElem? (i := 1972) (by decide +kernel), List.mem_of_getElem? (i := 1973) (by decide +kernel)⟩
theorem lw_p129 : lw_okq (⟨"CalledRiverModel", "qDropsNots", "()V"⟩, 120) := ⟨⟨by decide +kernel, by decide +kernel⟩, List.mem_of_getElem? (i := 1109) (by decide +kernel), List.mem_of_getElem? (i := 1976) (by decide +kernel), List.mem_of_getElem? (i := 1977) (by decide +kernel)⟩
theorem lw_p130 : lw_okq (⟨"CalledRiverModel", "qGoesOnTest", "()Z"⟩, 120) := ⟨⟨by decide +kernel, by decide +kernel⟩, List.mem_of_getElem? (i := 1109) (by decide +kernel), List.mem_of_getElem? (i := 1980) (by decide +kernel), List.mem_of_getElem? (i := 1981) (by decide +kernel)⟩
theorem lw_p131 : lw_okq (⟨"CalledRiverModel", "qHasSquare", "()Z"⟩, 120) := ⟨⟨by decide +kernel, by decide +kernel⟩, List.mem_of_getElem? (i := 1109) (by decide +kernel), List.mem_of_getElem? (i := 1984) (by decide +kernel), List.mem_of_getElem? (i := 1985) (by decide +kernel)⟩
theorem lw_p132 : lw_okq (⟨"CalledRiverModel", "laysSteps", "(I)V"⟩, 120) := ⟨⟨by decide +kernel, by decide +kernel⟩, List.mem_of_getElem? (i := 1109) (by decide +kernel), List.mem_of_getElem? (i := 1989) (by decide +kernel), List.mem_of_getElem? (i := 1990) (by decide +kernel)⟩
theorem lw_p133 : lw_okq (⟨"CalledRiverModel", "qTold", "(I)J"⟩, 120) := ⟨⟨by decide +kernel, by decide +kernel⟩, List.mem_of_getElem? (i := 1109) (by decide +kernel), List.mem_of_getElem? (i := 1993) (by decide +kernel), List.mem_of_getElem? (i := 1994) (by decide +kernel)⟩
theorem lw_p134 : lw_okq (⟨"CalledRiverModel", "qOf", "(IJI)J"⟩, 120) := ⟨⟨by decide +kernel, by decide +kernel⟩, List.mem_of_getElem? (i := 1109) (by decide +kernel), List.mem_of_getElem? (i := 1997) (by decide +kernel), List.mem_of_getElem? (i := 1998) (by decide +kernel)⟩
theorem lw_p135 : lw_okq (⟨"CalledRiverModel", "qTakes", "(IJI)V"⟩, 120) := ⟨⟨by decide +kernel, by decide +kernel⟩, List.mem_of_getElem? (i := 1109) (by decide +kernel), List.mem_of_getElem? (i := 2001) (by decide +kernel), List.mem_of_getElem? (i := 2002) (by decide +kernel)⟩
theorem lw_p136 : lw_okq (⟨"CalledRiverModel", "writes", "(I)V"⟩, 120) := ⟨⟨by decide +kernel, by decide +kernel⟩, List.mem_of_getElem? (i := 1109) (by decide +kernel), List.mem_of_getElem? (i := 2009) (by decide +kernel), List.mem_of_getElem? (i := 2010) (by decide +kernel)⟩
theorem lw_p137 : lw_okq (⟨"CalledRiverModel", "isImage", "(I)Z"⟩, 120) := ⟨⟨by decide +kernel, by decide +kernel⟩, List.mem_of_getElem? (i := 1109) (by decide +kernel), List.mem_of_getElem? (i := 2024) (by decide +kernel), List.mem_of_getElem? (i := 2025) (by decide +kernel)⟩
def lw_privs_9 : List (MethodName × Nat) := [(⟨"CalledRiverModel", "qFact", "()V"⟩, 120), (⟨"CalledRiverModel", "qDropsNots", "()V"⟩, 120), (⟨"CalledRiverModel", "qGoesOnTest", "()Z"⟩, 120), (⟨"CalledRiverModel", "qHasSquare", "()Z"⟩, 120), (⟨"CalledRiverModel", "laysSteps", "(I)V"⟩, 120), (⟨"CalledRiverModel", "qTold", "(I)J"⟩, 120), (⟨"CalledRiverModel", "qOf", "(IJI)J"⟩, 120), (⟨"CalledRiverModel", "qTakes", "(IJI)V"⟩, 120), (⟨"CalledRiverModel", "writes", "(I)V"⟩, 120), (⟨"CalledRiverModel", "isImage", "(I)Z"⟩, 120)]
theorem lw_r9 : ∀ q ∈ lw_privs_9, lw_okq q := List.forall_mem_cons.mpr ⟨lw_p128, List.forall_mem_cons.mpr ⟨lw_p129, List.forall_mem_cons.mpr ⟨lw_p130, List.forall_mem_cons.mpr ⟨lw_p131, List.forall_mem_cons.mpr ⟨lw_p132, List.forall_mem_cons.mpr ⟨lw_p133, List.forall_mem_cons.mpr ⟨lw_p134, List.forall_mem_cons.mpr ⟨lw_p135, List.forall_mem_cons.mpr ⟨lw_p136, List.forall_mem_cons.mpr ⟨lw_p137, fun _ h => absurd h List.not_mem_nil⟩⟩⟩⟩⟩⟩⟩⟩⟩⟩
def lw_privs : List (MethodName × Nat) := lw_privs_1 ++ (lw_privs_2 ++ (lw_privs_3 ++ (lw_privs_4 ++ (lw_privs_5 ++ (lw_privs_6 ++ (lw_privs_7 ++ (lw_privs_8 ++ (lw_privs_9))))))))
def lw_tbl : List Cond := k2_sels lw_privs ++ tables_1
theorem lw_privs_ok : ∀ q ∈ lw_privs, lw_okq q := by
  show ∀ q ∈ lw_privs_1 ++ (lw_privs_2 ++ (lw_privs_3 ++ (lw_privs_4 ++ (lw_privs_5 ++ (lw_privs_6 ++ (lw_privs_7 ++ (lw_privs_8 ++ (lw_privs_9)))))))), lw_okq q
  exact List.forall_mem_append.mpr ⟨lw_r1, List.forall_mem_append.mpr ⟨lw_r2, List.forall_mem_append.mpr ⟨lw_r3, List.forall_mem_append.mpr ⟨lw_r4, List.forall_mem_append.mpr ⟨lw_r5, List.forall_mem_append.mpr ⟨lw_r6, List.forall_mem_append.mpr ⟨lw_r7, List.forall_mem_append.mpr ⟨lw_r8, lw_r9⟩⟩⟩⟩⟩⟩⟩⟩
def RX0 : String := "CalledRiver$Code"
def TX0 : u_T := fun k => match k with
  | 0 => ("CalledRiver$Code", "steps", "[I", true)
  | 1 => ("CalledRiver$Code", "stack", "[I", true)
  | _ => ("CalledRiver$Code", "length", "I", false)
def tyX0 : Nat → FieldType := fun k => match k with
  | 0 => .array .int
  | 1 => .array .int
  | _ => .int
abbrev wsX00 : List Cond := u_ws RX0 TX0 3
theorem nmX0 : ∀ a, a < 3 → ∀ b, b < 3 → a ≠ b → (TX0 a).2.1 ≠ (TX0 b).2.1 := by decide +kernel
theorem tyX0_ok : ∀ k, k < 3 → parseFieldDescriptor (TX0 k).2.2.1 = some (tyX0 k) := by decide +kernel
abbrev cX0_init : ByteArray := prog_2_method_1_code
def yX0_init : MethodName := ⟨RX0, "<init>", "()V"⟩
abbrev cX0_clear : ByteArray := prog_2_method_2_code
def yX0_clear : MethodName := ⟨RX0, "clear", "()V"⟩
abbrev cX0_isEmpty : ByteArray := prog_2_method_3_code
def yX0_isEmpty : MethodName := ⟨RX0, "isEmpty", "()Z"⟩
abbrev cX0_add : ByteArray := prog_2_method_4_code
def yX0_add : MethodName := ⟨RX0, "add", "(I)V"⟩
abbrev cX0_worth : ByteArray := prog_2_method_5_code
def yX0_worth : MethodName := ⟨RX0, "worth", "([I)I"⟩
abbrev cX0_ofOne : ByteArray := prog_2_method_6_code
def yX0_ofOne : MethodName := ⟨RX0, "ofOne", "(II[I)I"⟩
abbrev cX0_ofTwo : ByteArray := prog_2_method_7_code
def yX0_ofTwo : MethodName := ⟨RX0, "ofTwo", "(IJJ)J"⟩
abbrev cX0_held : ByteArray := prog_2_method_8_code
def yX0_held : MethodName := ⟨RX0, "held", "(J)I"⟩
def RX1 : String := "CalledRiver$Land"
def TX1 : u_T := fun k => match k with
  | 0 => ("CalledRiver$Land", "year", "I", false)
  | 1 => ("CalledRiver$Land", "yearsKept", "I", false)
  | 2 => ("CalledRiver$Land", "height", "[I", true)
  | 3 => ("CalledRiver$Land", "stone", "[I", true)
  | 4 => ("CalledRiver$Land", "wet", "[I", true)
  | _ => ("CalledRiver$Land", "pie", "[I", true)
def tyX1 : Nat → FieldType := fun k => match k with
  | 0 => .int
  | 1 => .int
  | 2 => .array .int
  | 3 => .array .int
  | 4 => .array .int
  | _ => .array .int
abbrev wsX10 : List Cond := u_ws RX1 TX1 6
theorem nmX1 : ∀ a, a < 6 → ∀ b, b < 6 → a ≠ b → (TX1 a).2.1 ≠ (TX1 b).2.1 := by decide +kernel
theorem tyX1_ok : ∀ k, k < 6 → parseFieldDescriptor (TX1 k).2.2.1 = some (tyX1 k) := by decide +kernel
abbrev cX1_init : ByteArray := prog_3_method_1_code
def yX1_init : MethodName := ⟨RX1, "<init>", "()V"⟩
abbrev cX1_begin : ByteArray := prog_3_method_2_code
def yX1_begin : MethodName := ⟨RX1, "begin", "(LCalledRiver$Plain;)V"⟩
abbrev cX1_copy : ByteArray := prog_3_method_3_code
def yX1_copy : MethodName := ⟨RX1, "copy", "(LCalledRiver$Land;)V"⟩
abbrev cX1_flows : ByteArray := prog_3_method_4_code
def yX1_flows : MethodName := ⟨RX1, "flows", "(II)Z"⟩
abbrev cX1_stones : ByteArray := prog_3_method_5_code
def yX1_stones : MethodName := ⟨RX1, "stones", "()I"⟩
abbrev cX1_pies : ByteArray := prog_3_method_6_code
def yX1_pies : MethodName := ⟨RX1, "pies", "()I"⟩
def RX2 : String := "CalledRiver$Led"
def TX2 : u_T := fun k => match k with
  | 0 => ("CalledRiver$Led", "steps", "[I", true)
  | 1 => ("CalledRiver$Led", "reached", "[I", true)
  | 2 => ("CalledRiver$Led", "reachedCount", "I", false)
  | _ => ("CalledRiver$Led", "fewest", "[I", true)
def tyX2 : Nat → FieldType := fun k => match k with
  | 0 => .array .int
  | 1 => .array .int
  | 2 => .int
  | _ => .array .int
abbrev wsX20 : List Cond := u_ws RX2 TX2 4
theorem nmX2 : ∀ a, a < 4 → ∀ b, b < 4 → a ≠ b → (TX2 a).2.1 ≠ (TX2 b).2.1 := by decide +kernel
theorem tyX2_ok : ∀ k, k < 4 → parseFieldDescriptor (TX2 k).2.2.1 = some (tyX2 k) := by decide +kernel
abbrev cX2_init : ByteArray := prog_4_method_1_code
def yX2_init : MethodName := ⟨RX2, "<init>", "()V"⟩
abbrev cX2_search : ByteArray := prog_4_method_2_code
def yX2_search : MethodName := ⟨RX2, "search", "(LCalledRiver$Plain;LCalledRiver$Land;)V"⟩
abbrev cX2_goOn : ByteArray := prog_4_method_3_code
def yX2_goOn : MethodName := ⟨RX2, "goOn", "(LCalledRiver$Plain;LCalledRiver$Land;I)V"⟩
abbrev cX2_reach : ByteArray := prog_4_method_4_code
def yX2_reach : MethodName := ⟨RX2, "reach", "(LCalledRiver$Plain;III)V"⟩
abbrev cX2_fewestFor : ByteArray := prog_4_method_5_code
def yX2_fewestFor : MethodName := ⟨RX2, "fewestFor", "(I)I"⟩
def RX3 : String := "CalledRiver$Past"
def TX3 : u_T := fun k => match k with
  | 0 => ("CalledRiver$Past", "count", "I", false)
  | 1 => ("CalledRiver$Past", "oldest", "I", false)
  | 2 => ("CalledRiver$Past", "lands", "[LCalledRiver$Land;", true)
  | 3 => ("CalledRiver$Past", "year", "[I", true)
  | 4 => ("CalledRiver$Past", "caller", "[I", true)
  | _ => ("CalledRiver$Past", "watered", "[I", true)
def tyX3 : Nat → FieldType := fun k => match k with
  | 0 => .int
  | 1 => .int
  | 2 => .array (.object "CalledRiver$Land")
  | 3 => .array .int
  | 4 => .array .int
  | _ => .array .int
abbrev wsX30 : List Cond := u_ws RX3 TX3 6
theorem nmX3 : ∀ a, a < 6 → ∀ b, b < 6 → a ≠ b → (TX3 a).2.1 ≠ (TX3 b).2.1 := by decide +kernel
theorem tyX3_ok : ∀ k, k < 6 → parseFieldDescriptor (TX3 k).2.2.1 = some (tyX3 k) := by decide +kernel
abbrev cX3_init : ByteArray := prog_5_method_1_code
def yX3_init : MethodName := ⟨RX3, "<init>", "()V"⟩
abbrev cX3_forget : ByteArray := prog_5_method_2_code
def yX3_forget : MethodName := ⟨RX3, "forget", "()V"⟩
abbrev cX3_remember : ByteArray := prog_5_method_3_code
def yX3_remember : MethodName := ⟨RX3, "remember", "(LCalledRiver$Land;)V"⟩
abbrev cX3_restore : ByteArray := prog_5_method_4_code
def yX3_restore : MethodName := ⟨RX3, "restore", "(LCalledRiver$Land;)Z"⟩
abbrev cX3_keep : ByteArray := prog_5_method_5_code
def yX3_keep : MethodName := ⟨RX3, "keep", "(IIII)I"⟩
abbrev cX3_tell : ByteArray := prog_5_method_6_code
def yX3_tell : MethodName := ⟨RX3, "tell", "(II)I"⟩
def RX4 : String := "CalledRiver$Picture"
def TX4 : u_T := fun k => match k with
  | 0 => ("CalledRiver$Picture", "bytes", "[I", true)
  | _ => ("CalledRiver$Picture", "length", "I", false)
def tyX4 : Nat → FieldType := fun k => match k with
  | 0 => .array .int
  | _ => .int
abbrev wsX40 : List Cond := u_ws RX4 TX4 2
theorem nmX4 : ∀ a, a < 2 → ∀ b, b < 2 → a ≠ b → (TX4 a).2.1 ≠ (TX4 b).2.1 := by decide +kernel
theorem tyX4_ok : ∀ k, k < 2 → parseFieldDescriptor (TX4 k).2.2.1 = some (tyX4 k) := by decide +kernel
abbrev cX4_init : ByteArray := prog_6_method_1_code
def yX4_init : MethodName := ⟨RX4, "<init>", "()V"⟩
abbrev cX4_write : ByteArray := prog_6_method_2_code
def yX4_write : MethodName := ⟨RX4, "write", "(LCalledRiver$Plain;LCalledRiver$Land;)V"⟩
abbrev cX4_checkOf : ByteArray := prog_6_method_3_code
def yX4_checkOf : MethodName := ⟨RX4, "checkOf", "([II)I"⟩
abbrev cX4_isOf : ByteArray := prog_6_method_4_code
def yX4_isOf : MethodName := ⟨RX4, "isOf", "(LCalledRiver$Plain;LCalledRiver$Tape;)Z"⟩
abbrev cX4_yearOf : ByteArray := prog_6_method_5_code
def yX4_yearOf : MethodName := ⟨RX4, "yearOf", "(LCalledRiver$Tape;)I"⟩
abbrev cX4_show : ByteArray := prog_6_method_6_code
def yX4_show : MethodName := ⟨RX4, "show", "(LCalledRiver$Plain;LCalledRiver$Tape;LCalledRiver$Land;)V"⟩
def RX5 : String := "CalledRiver$Plain"
def TX5 : u_T := fun k => match k with
  | 0 => ("CalledRiver$Plain", "columns", "I", false)
  | 1 => ("CalledRiver$Plain", "rows", "I", false)
  | 2 => ("CalledRiver$Plain", "source", "I", false)
  | 3 => ("CalledRiver$Plain", "farms", "I", false)
  | 4 => ("CalledRiver$Plain", "callers", "I", false)
  | 5 => ("CalledRiver$Plain", "height", "[I", true)
  | 6 => ("CalledRiver$Plain", "stone", "[I", true)
  | 7 => ("CalledRiver$Plain", "farmIn", "[I", true)
  | 8 => ("CalledRiver$Plain", "farmName", "[I", true)
  | 9 => ("CalledRiver$Plain", "farmPlace", "[I", true)
  | 10 => ("CalledRiver$Plain", "farmDay", "[I", true)
  | 11 => ("CalledRiver$Plain", "farmPie", "[I", true)
  | 12 => ("CalledRiver$Plain", "callerName", "[I", true)
  | 13 => ("CalledRiver$Plain", "bold", "[I", true)
  | 14 => ("CalledRiver$Plain", "kind", "[I", true)
  | 15 => ("CalledRiver$Plain", "goes", "LCalledRiver$Code;", true)
  | _ => ("CalledRiver$Plain", "bakes", "LCalledRiver$Code;", true)
def tyX5 : Nat → FieldType := fun k => match k with
  | 0 => .int
  | 1 => .int
  | 2 => .int
  | 3 => .int
  | 4 => .int
  | 5 => .array .int
  | 6 => .array .int
  | 7 => .array .int
  | 8 => .array .int
  | 9 => .array .int
  | 10 => .array .int
  | 11 => .array .int
  | 12 => .array .int
  | 13 => .array .int
  | 14 => .array .int
  | 15 => .object "CalledRiver$Code"
  | _ => .object "CalledRiver$Code"
abbrev wsX50 : List Cond := u_ws RX5 TX5 17
theorem nmX5 : ∀ a, a < 17 → ∀ b, b < 17 → a ≠ b → (TX5 a).2.1 ≠ (TX5 b).2.1 := by decide +kernel
theorem tyX5_ok : ∀ k, k < 17 → parseFieldDescriptor (TX5 k).2.2.1 = some (tyX5 k) := by decide +kernel
abbrev cX5_init : ByteArray := prog_7_method_1_code
def yX5_init : MethodName := ⟨RX5, "<init>", "()V"⟩
abbrev cX5_clear : ByteArray := prog_7_method_2_code
def yX5_clear : MethodName := ⟨RX5, "clear", "()V"⟩
abbrev cX5_places : ByteArray := prog_7_method_3_code
def yX5_places : MethodName := ⟨RX5, "places", "()I"⟩
abbrev cX5_placeOf : ByteArray := prog_7_method_4_code
def yX5_placeOf : MethodName := ⟨RX5, "placeOf", "(II)I"⟩
abbrev cX5_columnOf : ByteArray := prog_7_method_5_code
def yX5_columnOf : MethodName := ⟨RX5, "columnOf", "(I)I"⟩
abbrev cX5_rowOf : ByteArray := prog_7_method_6_code
def yX5_rowOf : MethodName := ⟨RX5, "rowOf", "(I)I"⟩
abbrev cX5_beside : ByteArray := prog_7_method_7_code
def yX5_beside : MethodName := ⟨RX5, "beside", "(II)I"⟩
abbrev cX5_isFarm : ByteArray := prog_7_method_8_code
def yX5_isFarm : MethodName := ⟨RX5, "isFarm", "(I)Z"⟩
abbrev cX5_isCaller : ByteArray := prog_7_method_9_code
def yX5_isCaller : MethodName := ⟨RX5, "isCaller", "(I)Z"⟩
abbrev cX5_isNamed : ByteArray := prog_7_method_10_code
def yX5_isNamed : MethodName := ⟨RX5, "isNamed", "(I)Z"⟩
def RX6 : String := "CalledRiver$PlainReader"
def TX6 : u_T := fun k => match k with
  | 0 => ("CalledRiver$PlainReader", "tape", "LCalledRiver$Tape;", true)
  | 1 => ("CalledRiver$PlainReader", "sums", "LCalledRiver$SumReader;", true)
  | 2 => ("CalledRiver$PlainReader", "plain", "LCalledRiver$Plain;", false)
  | _ => ("CalledRiver$PlainReader", "rowStart", "I", false)
def tyX6 : Nat → FieldType := fun k => match k with
  | 0 => .object "CalledRiver$Tape"
  | 1 => .object "CalledRiver$SumReader"
  | 2 => .object "CalledRiver$Plain"
  | _ => .int
abbrev wsX60 : List Cond := u_ws RX6 TX6 4
theorem nmX6 : ∀ a, a < 4 → ∀ b, b < 4 → a ≠ b → (TX6 a).2.1 ≠ (TX6 b).2.1 := by decide +kernel
theorem tyX6_ok : ∀ k, k < 4 → parseFieldDescriptor (TX6 k).2.2.1 = some (tyX6 k) := by decide +kernel
abbrev cX6_init : ByteArray := prog_8_method_1_code
def yX6_init : MethodName := ⟨RX6, "<init>", "(LCalledRiver$Tape;LCalledRiver$SumReader;LCalledRiver$Plain;)V"⟩
abbrev cX6_readPlain : ByteArray := prog_8_method_2_code
def yX6_readPlain : MethodName := ⟨RX6, "readPlain", "(LCalledRiver$Plain;)I"⟩
abbrev cX6_hasMore : ByteArray := prog_8_method_3_code
def yX6_hasMore : MethodName := ⟨RX6, "hasMore", "()Z"⟩
abbrev cX6_readSides : ByteArray := prog_8_method_4_code
def yX6_readSides : MethodName := ⟨RX6, "readSides", "()V"⟩
abbrev cX6_readStatement : ByteArray := prog_8_method_5_code
def yX6_readStatement : MethodName := ⟨RX6, "readStatement", "()V"⟩
abbrev cX6_isFull : ByteArray := prog_8_method_6_code
def yX6_isFull : MethodName := ⟨RX6, "isFull", "(I)Z"⟩
abbrev cX6_readHigh : ByteArray := prog_8_method_7_code
def yX6_readHigh : MethodName := ⟨RX6, "readHigh", "()V"⟩
abbrev cX6_readStone : ByteArray := prog_8_method_8_code
def yX6_readStone : MethodName := ⟨RX6, "readStone", "()V"⟩
abbrev cX6_readFarm : ByteArray := prog_8_method_9_code
def yX6_readFarm : MethodName := ⟨RX6, "readFarm", "()V"⟩
abbrev cX6_readCaller : ByteArray := prog_8_method_10_code
def yX6_readCaller : MethodName := ⟨RX6, "readCaller", "()V"⟩
abbrev cX6_readNewName : ByteArray := prog_8_method_11_code
def yX6_readNewName : MethodName := ⟨RX6, "readNewName", "()I"⟩
abbrev cX6_readPlace : ByteArray := prog_8_method_12_code
def yX6_readPlace : MethodName := ⟨RX6, "readPlace", "()I"⟩
abbrev cX6_addMissingSums : ByteArray := prog_8_method_13_code
def yX6_addMissingSums : MethodName := ⟨RX6, "addMissingSums", "()V"⟩
def RX7 : String := "CalledRiver$Sight"
def TX7 : u_T := fun k => match k with
  | 0 => ("CalledRiver$Sight", "count", "I", false)
  | 1 => ("CalledRiver$Sight", "step", "[I", true)
  | _ => ("CalledRiver$Sight", "place", "[I", true)
def tyX7 : Nat → FieldType := fun k => match k with
  | 0 => .int
  | 1 => .array .int
  | _ => .array .int
abbrev wsX70 : List Cond := u_ws RX7 TX7 3
theorem nmX7 : ∀ a, a < 3 → ∀ b, b < 3 → a ≠ b → (TX7 a).2.1 ≠ (TX7 b).2.1 := by decide +kernel
theorem tyX7_ok : ∀ k, k < 3 → parseFieldDescriptor (TX7 k).2.2.1 = some (tyX7 k) := by decide +kernel
abbrev cX7_init : ByteArray := prog_9_method_1_code
def yX7_init : MethodName := ⟨RX7, "<init>", "()V"⟩
abbrev cX7_take : ByteArray := prog_9_method_2_code
def yX7_take : MethodName := ⟨RX7, "take", "(LCalledRiver$Tape;LCalledRiver$Plain;)Z"⟩
abbrev cX7_isSight : ByteArray := prog_9_method_3_code
def yX7_isSight : MethodName := ⟨RX7, "isSight", "(LCalledRiver$Tape;LCalledRiver$Plain;)Z"⟩
abbrev cX7_fits : ByteArray := prog_9_method_4_code
def yX7_fits : MethodName := ⟨RX7, "fits", "(LCalledRiver$Way;)Z"⟩
def RX8 : String := "CalledRiver$SumReader"
def TX8 : u_T := fun k => match k with
  | 0 => ("CalledRiver$SumReader", "tape", "LCalledRiver$Tape;", true)
  | 1 => ("CalledRiver$SumReader", "code", "LCalledRiver$Code;", false)
  | _ => ("CalledRiver$SumReader", "known", "I", false)
def tyX8 : Nat → FieldType := fun k => match k with
  | 0 => .object "CalledRiver$Tape"
  | 1 => .object "CalledRiver$Code"
  | _ => .int
abbrev wsX80 : List Cond := u_ws RX8 TX8 3
theorem nmX8 : ∀ a, a < 3 → ∀ b, b < 3 → a ≠ b → (TX8 a).2.1 ≠ (TX8 b).2.1 := by decide +kernel
theorem tyX8_ok : ∀ k, k < 3 → parseFieldDescriptor (TX8 k).2.2.1 = some (tyX8 k) := by decide +kernel
abbrev cX8_init : ByteArray := prog_10_method_1_code
def yX8_init : MethodName := ⟨RX8, "<init>", "(LCalledRiver$Tape;LCalledRiver$Code;)V"⟩
abbrev cX8_readSumOf : ByteArray := prog_10_method_2_code
def yX8_readSumOf : MethodName := ⟨RX8, "readSumOf", "(ILCalledRiver$Code;)V"⟩
abbrev cX8_readQuestion : ByteArray := prog_10_method_3_code
def yX8_readQuestion : MethodName := ⟨RX8, "readQuestion", "(LCalledRiver$Code;)I"⟩
abbrev cX8_begin : ByteArray := prog_10_method_4_code
def yX8_begin : MethodName := ⟨RX8, "begin", "(ILCalledRiver$Code;)V"⟩
abbrev cX8_readTest : ByteArray := prog_10_method_5_code
def yX8_readTest : MethodName := ⟨RX8, "readTest", "(I)V"⟩
abbrev cX8_readBoth : ByteArray := prog_10_method_6_code
def yX8_readBoth : MethodName := ⟨RX8, "readBoth", "(I)V"⟩
abbrev cX8_readFact : ByteArray := prog_10_method_7_code
def yX8_readFact : MethodName := ⟨RX8, "readFact", "(I)V"⟩
abbrev cX8_readComparison : ByteArray := prog_10_method_8_code
def yX8_readComparison : MethodName := ⟨RX8, "readComparison", "(I)V"⟩
abbrev cX8_readSum : ByteArray := prog_10_method_9_code
def yX8_readSum : MethodName := ⟨RX8, "readSum", "(I)V"⟩
abbrev cX8_readProduct : ByteArray := prog_10_method_10_code
def yX8_readProduct : MethodName := ⟨RX8, "readProduct", "(I)V"⟩
abbrev cX8_readPart : ByteArray := prog_10_method_11_code
def yX8_readPart : MethodName := ⟨RX8, "readPart", "(I)V"⟩
abbrev cX8_readPair : ByteArray := prog_10_method_12_code
def yX8_readPair : MethodName := ⟨RX8, "readPair", "(I)V"⟩
abbrev cX8_readOfCaller : ByteArray := prog_10_method_13_code
def yX8_readOfCaller : MethodName := ⟨RX8, "readOfCaller", "(I)V"⟩
abbrev cX8_readNamedFact : ByteArray := prog_10_method_14_code
def yX8_readNamedFact : MethodName := ⟨RX8, "readNamedFact", "()V"⟩
abbrev cX8_opens : ByteArray := prog_10_method_15_code
def yX8_opens : MethodName := ⟨RX8, "opens", "(I)Z"⟩
def RX9 : String := "CalledRiver$Tape"
def TX9 : u_T := fun k => match k with
  | 0 => ("CalledRiver$Tape", "bytes", "[I", true)
  | 1 => ("CalledRiver$Tape", "length", "I", false)
  | 2 => ("CalledRiver$Tape", "kind", "I", false)
  | 3 => ("CalledRiver$Tape", "start", "I", false)
  | 4 => ("CalledRiver$Tape", "stop", "I", false)
  | 5 => ("CalledRiver$Tape", "fault", "I", false)
  | _ => ("CalledRiver$Tape", "faultAt", "I", false)
def tyX9 : Nat → FieldType := fun k => match k with
  | 0 => .array .int
  | 1 => .int
  | 2 => .int
  | 3 => .int
  | 4 => .int
  | 5 => .int
  | _ => .int
abbrev wsX90 : List Cond := u_ws RX9 TX9 7
theorem nmX9 : ∀ a, a < 7 → ∀ b, b < 7 → a ≠ b → (TX9 a).2.1 ≠ (TX9 b).2.1 := by decide +kernel
theorem tyX9_ok : ∀ k, k < 7 → parseFieldDescriptor (TX9 k).2.2.1 = some (tyX9 k) := by decide +kernel
abbrev cX9_init : ByteArray := prog_11_method_1_code
def yX9_init : MethodName := ⟨RX9, "<init>", "()V"⟩
abbrev cX9_append : ByteArray := prog_11_method_2_code
def yX9_append : MethodName := ⟨RX9, "append", "(I)V"⟩
abbrev cX9_rewind : ByteArray := prog_11_method_3_code
def yX9_rewind : MethodName := ⟨RX9, "rewind", "()V"⟩
abbrev cX9_fail : ByteArray := prog_11_method_4_code
def yX9_fail : MethodName := ⟨RX9, "fail", "(II)V"⟩
abbrev cX9_advance : ByteArray := prog_11_method_5_code
def yX9_advance : MethodName := ⟨RX9, "advance", "()V"⟩
abbrev cX9_kindOf : ByteArray := prog_11_method_6_code
def yX9_kindOf : MethodName := ⟨RX9, "kindOf", "(I)I"⟩
abbrev cX9_isSign : ByteArray := prog_11_method_7_code
def yX9_isSign : MethodName := ⟨RX9, "isSign", "(C)Z"⟩
abbrev cX9_takeSign : ByteArray := prog_11_method_8_code
def yX9_takeSign : MethodName := ⟨RX9, "takeSign", "(C)V"⟩
abbrev cX9_wordIn : ByteArray := prog_11_method_9_code
def yX9_wordIn : MethodName := ⟨RX9, "wordIn", "(Ljava/lang/String;)I"⟩
abbrev cX9_isSpelled : ByteArray := prog_11_method_10_code
def yX9_isSpelled : MethodName := ⟨RX9, "isSpelled", "(Ljava/lang/String;I)Z"⟩
abbrev cX9_takeWord : ByteArray := prog_11_method_11_code
def yX9_takeWord : MethodName := ⟨RX9, "takeWord", "(Ljava/lang/String;)V"⟩
abbrev cX9_takeNumber : ByteArray := prog_11_method_12_code
def yX9_takeNumber : MethodName := ⟨RX9, "takeNumber", "(II)I"⟩
abbrev cX9_takeName : ByteArray := prog_11_method_13_code
def yX9_takeName : MethodName := ⟨RX9, "takeName", "()I"⟩
abbrev cX9_letterOf : ByteArray := prog_11_method_14_code
def yX9_letterOf : MethodName := ⟨RX9, "letterOf", "(II)I"⟩
def RX10 : String := "CalledRiver$Way"
def TX10 : u_T := fun k => match k with
  | 0 => ("CalledRiver$Way", "places", "[I", true)
  | 1 => ("CalledRiver$Way", "stepIn", "[I", true)
  | 2 => ("CalledRiver$Way", "steps", "I", false)
  | 3 => ("CalledRiver$Way", "sea", "Z", false)
  | 4 => ("CalledRiver$Way", "watered", "I", false)
  | 5 => ("CalledRiver$Way", "known", "Z", false)
  | _ => ("CalledRiver$Way", "facts", "[I", true)
def tyX10 : Nat → FieldType := fun k => match k with
  | 0 => .array .int
  | 1 => .array .int
  | 2 => .int
  | 3 => .boolean
  | 4 => .int
  | 5 => .boolean
  | _ => .array .int
abbrev wsX100 : List Cond := u_ws RX10 TX10 7
theorem nmX10 : ∀ a, a < 7 → ∀ b, b < 7 → a ≠ b → (TX10 a).2.1 ≠ (TX10 b).2.1 := by decide +kernel
theorem tyX10_ok : ∀ k, k < 7 → parseFieldDescriptor (TX10 k).2.2.1 = some (tyX10 k) := by decide +kernel
abbrev cX10_init : ByteArray := prog_12_method_1_code
def yX10_init : MethodName := ⟨RX10, "<init>", "()V"⟩
abbrev cX10_lead : ByteArray := prog_12_method_2_code
def yX10_lead : MethodName := ⟨RX10, "lead", "(LCalledRiver$Plain;LCalledRiver$Land;I)V"⟩
abbrev cX10_enter : ByteArray := prog_12_method_3_code
def yX10_enter : MethodName := ⟨RX10, "enter", "(LCalledRiver$Plain;II)V"⟩
abbrev cX10_nextPlace : ByteArray := prog_12_method_4_code
def yX10_nextPlace : MethodName := ⟨RX10, "nextPlace", "(LCalledRiver$Plain;LCalledRiver$Land;I)I"⟩
abbrev cX10_placeBy : ByteArray := prog_12_method_5_code
def yX10_placeBy : MethodName := ⟨RX10, "placeBy", "(I)I"⟩
abbrev cX10_waters : ByteArray := prog_12_method_6_code
def yX10_waters : MethodName := ⟨RX10, "waters", "(I)Z"⟩
abbrev cX10_isBetterThan : ByteArray := prog_12_method_7_code
def yX10_isBetterThan : MethodName := ⟨RX10, "isBetterThan", "(LCalledRiver$Way;)Z"⟩
abbrev cX10_partingFrom : ByteArray := prog_12_method_8_code
def yX10_partingFrom : MethodName := ⟨RX10, "partingFrom", "(LCalledRiver$Way;)I"⟩
abbrev cX10_meetingWith : ByteArray := prog_12_method_9_code
def yX10_meetingWith : MethodName := ⟨RX10, "meetingWith", "(LCalledRiver$Way;I)I"⟩
def RX11 : String := "CalledRiver"
def TX11 : u_T := fun k => match k with
  | 0 => ("CalledRiver", "tape", "LCalledRiver$Tape;", true)
  | 1 => ("CalledRiver", "question", "LCalledRiver$Code;", true)
  | 2 => ("CalledRiver", "sumReader", "LCalledRiver$SumReader;", true)
  | 3 => ("CalledRiver", "told", "LCalledRiver$Plain;", false)
  | 4 => ("CalledRiver", "draft", "LCalledRiver$Plain;", false)
  | 5 => ("CalledRiver", "plainReader", "LCalledRiver$PlainReader;", true)
  | 6 => ("CalledRiver", "land", "LCalledRiver$Land;", true)
  | 7 => ("CalledRiver", "trial", "LCalledRiver$Land;", true)
  | 8 => ("CalledRiver", "past", "LCalledRiver$Past;", true)
  | 9 => ("CalledRiver", "led", "LCalledRiver$Led;", true)
  | 10 => ("CalledRiver", "sight", "LCalledRiver$Sight;", true)
  | 11 => ("CalledRiver", "ways", "[LCalledRiver$Way;", true)
  | 12 => ("CalledRiver", "tried", "LCalledRiver$Way;", true)
  | 13 => ("CalledRiver", "noWay", "LCalledRiver$Way;", true)
  | 14 => ("CalledRiver", "facts", "[I", true)
  | 15 => ("CalledRiver", "wateredBySet", "[I", true)
  | 16 => ("CalledRiver", "picture", "LCalledRiver$Picture;", true)
  | 17 => ("CalledRiver", "refused", "[I", true)
  | _ => ("CalledRiver", "seedNow", "J", false)
def tyX11 : Nat → FieldType := fun k => match k with
  | 0 => .object "CalledRiver$Tape"
  | 1 => .object "CalledRiver$Code"
  | 2 => .object "CalledRiver$SumReader"
  | 3 => .object "CalledRiver$Plain"
  | 4 => .object "CalledRiver$Plain"
  | 5 => .object "CalledRiver$PlainReader"
  | 6 => .object "CalledRiver$Land"
  | 7 => .object "CalledRiver$Land"
  | 8 => .object "CalledRiver$Past"
  | 9 => .object "CalledRiver$Led"
  | 10 => .object "CalledRiver$Sight"
  | 11 => .array (.object "CalledRiver$Way")
  | 12 => .object "CalledRiver$Way"
  | 13 => .object "CalledRiver$Way"
  | 14 => .array .int
  | 15 => .array .int
  | 16 => .object "CalledRiver$Picture"
  | 17 => .array .int
  | _ => .long
abbrev wsX110 : List Cond := u_ws RX11 TX11 19
theorem nmX11 : ∀ a, a < 19 → ∀ b, b < 19 → a ≠ b → (TX11 a).2.1 ≠ (TX11 b).2.1 := by decide +kernel
theorem tyX11_ok : ∀ k, k < 19 → parseFieldDescriptor (TX11 k).2.2.1 = some (tyX11 k) := by decide +kernel
abbrev cX11_init : ByteArray := prog_1_method_1_code
def yX11_init : MethodName := ⟨RX11, "<init>", "()V"⟩
abbrev cX11_feed : ByteArray := prog_1_method_2_code
def yX11_feed : MethodName := ⟨RX11, "feed", "(IIIII)I"⟩
abbrev cX11_end : ByteArray := prog_1_method_3_code
def yX11_end : MethodName := ⟨RX11, "end", "(I)Z"⟩
abbrev cX11_plain : ByteArray := prog_1_method_4_code
def yX11_plain : MethodName := ⟨RX11, "plain", "()I"⟩
abbrev cX11_fault : ByteArray := prog_1_method_5_code
def yX11_fault : MethodName := ⟨RX11, "fault", "(I)I"⟩
abbrev cX11_has : ByteArray := prog_1_method_6_code
def yX11_has : MethodName := ⟨RX11, "has", "(I)I"⟩
abbrev cX11_letter : ByteArray := prog_1_method_7_code
def yX11_letter : MethodName := ⟨RX11, "letter", "(III)I"⟩
abbrev cX11_cell : ByteArray := prog_1_method_8_code
def yX11_cell : MethodName := ⟨RX11, "cell", "(III)I"⟩
abbrev cX11_farm : ByteArray := prog_1_method_9_code
def yX11_farm : MethodName := ⟨RX11, "farm", "(II)I"⟩
abbrev cX11_caller : ByteArray := prog_1_method_10_code
def yX11_caller : MethodName := ⟨RX11, "caller", "(II)I"⟩
abbrev cX11_kept : ByteArray := prog_1_method_11_code
def yX11_kept : MethodName := ⟨RX11, "kept", "(II)I"⟩
abbrev cX11_way : ByteArray := prog_1_method_12_code
def yX11_way : MethodName := ⟨RX11, "way", "(III)I"⟩
abbrev cX11_leads : ByteArray := prog_1_method_13_code
def yX11_leads : MethodName := ⟨RX11, "leads", "(II)I"⟩
abbrev cX11_best : ByteArray := prog_1_method_14_code
def yX11_best : MethodName := ⟨RX11, "best", "()I"⟩
abbrev cX11_least : ByteArray := prog_1_method_15_code
def yX11_least : MethodName := ⟨RX11, "least", "(I)I"⟩
abbrev cX11_dry : ByteArray := prog_1_method_16_code
def yX11_dry : MethodName := ⟨RX11, "dry", "()I"⟩
abbrev cX11_bid : ByteArray := prog_1_method_17_code
def yX11_bid : MethodName := ⟨RX11, "bid", "(II)I"⟩
abbrev cX11_rest : ByteArray := prog_1_method_18_code
def yX11_rest : MethodName := ⟨RX11, "rest", "(I)I"⟩
abbrev cX11_parts : ByteArray := prog_1_method_19_code
def yX11_parts : MethodName := ⟨RX11, "parts", "(III)I"⟩
abbrev cX11_mill : ByteArray := prog_1_method_20_code
def yX11_mill : MethodName := ⟨RX11, "mill", "(I)I"⟩
abbrev cX11_see : ByteArray := prog_1_method_21_code
def yX11_see : MethodName := ⟨RX11, "see", "()I"⟩
abbrev cX11_who : ByteArray := prog_1_method_22_code
def yX11_who : MethodName := ⟨RX11, "who", "()I"⟩
abbrev cX11_tells : ByteArray := prog_1_method_23_code
def yX11_tells : MethodName := ⟨RX11, "tells", "(I)I"⟩
abbrev cX11_spring : ByteArray := prog_1_method_24_code
def yX11_spring : MethodName := ⟨RX11, "spring", "(I)I"⟩
abbrev cX11_bake : ByteArray := prog_1_method_25_code
def yX11_bake : MethodName := ⟨RX11, "bake", "(II)Z"⟩
abbrev cX11_dig : ByteArray := prog_1_method_26_code
def yX11_dig : MethodName := ⟨RX11, "dig", "(II)I"⟩
abbrev cX11_stone : ByteArray := prog_1_method_27_code
def yX11_stone : MethodName := ⟨RX11, "stone", "(III)Z"⟩
abbrev cX11_chance : ByteArray := prog_1_method_28_code
def yX11_chance : MethodName := ⟨RX11, "chance", "(I)I"⟩
abbrev cX11_undo : ByteArray := prog_1_method_29_code
def yX11_undo : MethodName := ⟨RX11, "undo", "()Z"⟩
abbrev cX11_seed : ByteArray := prog_1_method_30_code
def yX11_seed : MethodName := ⟨RX11, "seed", "(I)Z"⟩
abbrev cX11_ask : ByteArray := prog_1_method_31_code
def yX11_ask : MethodName := ⟨RX11, "ask", "()J"⟩
abbrev cX11_image : ByteArray := prog_1_method_32_code
def yX11_image : MethodName := ⟨RX11, "image", "()I"⟩
abbrev cX11_octet : ByteArray := prog_1_method_33_code
def yX11_octet : MethodName := ⟨RX11, "octet", "(I)I"⟩
abbrev cX11_on : ByteArray := prog_1_method_34_code
def yX11_on : MethodName := ⟨RX11, "on", "()Z"⟩
abbrev cX11_status : ByteArray := prog_1_method_35_code
def yX11_status : MethodName := ⟨RX11, "status", "(I)I"⟩
abbrev cX11_refuse : ByteArray := prog_1_method_36_code
def yX11_refuse : MethodName := ⟨RX11, "refuse", "(I)I"⟩
abbrev cX11_forgetWays : ByteArray := prog_1_method_37_code
def yX11_forgetWays : MethodName := ⟨RX11, "forgetWays", "()V"⟩
abbrev cX11_wayOf : ByteArray := prog_1_method_38_code
def yX11_wayOf : MethodName := ⟨RX11, "wayOf", "(I)LCalledRiver$Way;"⟩
abbrev cX11_placePart : ByteArray := prog_1_method_39_code
def yX11_placePart : MethodName := ⟨RX11, "placePart", "(II)I"⟩
abbrev cX11_waterBySets : ByteArray := prog_1_method_40_code
def yX11_waterBySets : MethodName := ⟨RX11, "waterBySets", "(I)V"⟩
abbrev cX11_pieIn : ByteArray := prog_1_method_41_code
def yX11_pieIn : MethodName := ⟨RX11, "pieIn", "(II)I"⟩
abbrev cX11_isAtRest : ByteArray := prog_1_method_42_code
def yX11_isAtRest : MethodName := ⟨RX11, "isAtRest", "(I)Z"⟩
abbrev cX11_welfare : ByteArray := prog_1_method_43_code
def yX11_welfare : MethodName := ⟨RX11, "welfare", "(II)I"⟩
abbrev cX11_waysThrough : ByteArray := prog_1_method_44_code
def yX11_waysThrough : MethodName := ⟨RX11, "waysThrough", "(I)I"⟩
abbrev cX11_callersLeft : ByteArray := prog_1_method_45_code
def yX11_callersLeft : MethodName := ⟨RX11, "callersLeft", "()I"⟩
abbrev cX11_mostLeftBy : ByteArray := prog_1_method_46_code
def yX11_mostLeftBy : MethodName := ⟨RX11, "mostLeftBy", "(II)I"⟩
abbrev cX11_drawCaller : ByteArray := prog_1_method_47_code
def yX11_drawCaller : MethodName := ⟨RX11, "drawCaller", "()I"⟩
abbrev cX11_passYear : ByteArray := prog_1_method_48_code
def yX11_passYear : MethodName := ⟨RX11, "passYear", "(I)I"⟩
abbrev cX11_answerTo : ByteArray := prog_1_method_49_code
def yX11_answerTo : MethodName := ⟨RX11, "answerTo", "(I)J"⟩
abbrev cX11_gatherFacts : ByteArray := prog_1_method_50_code
def yX11_gatherFacts : MethodName := ⟨RX11, "gatherFacts", "(I)V"⟩
def RX12 : String := "CalledRiverModel"
def TX12 : u_T := fun k => match k with
  | 0 => ("CalledRiverModel", "tape", "[I", true)
  | 1 => ("CalledRiverModel", "taped", "I", false)
  | 2 => ("CalledRiverModel", "at", "I", false)
  | 3 => ("CalledRiverModel", "end", "I", false)
  | 4 => ("CalledRiverModel", "ended", "I", false)
  | 5 => ("CalledRiverModel", "bad", "I", false)
  | 6 => ("CalledRiverModel", "badPlace", "I", false)
  | 7 => ("CalledRiverModel", "fault", "I", false)
  | 8 => ("CalledRiverModel", "faultPlace", "I", false)
  | 9 => ("CalledRiverModel", "refused", "[I", true)
  | 10 => ("CalledRiverModel", "numberPlace", "I", false)
  | 11 => ("CalledRiverModel", "plainWord", "[C", true)
  | 12 => ("CalledRiverModel", "byWord", "[C", true)
  | 13 => ("CalledRiverModel", "highWord", "[C", true)
  | 14 => ("CalledRiverModel", "stoneWord", "[C", true)
  | 15 => ("CalledRiverModel", "sourceWord", "[C", true)
  | 16 => ("CalledRiverModel", "farmWord", "[C", true)
  | 17 => ("CalledRiverModel", "atWord", "[C", true)
  | 18 => ("CalledRiverModel", "dayWord", "[C", true)
  | 19 => ("CalledRiverModel", "pieWord", "[C", true)
  | 20 => ("CalledRiverModel", "callerWord", "[C", true)
  | 21 => ("CalledRiverModel", "boldWord", "[C", true)
  | 22 => ("CalledRiverModel", "kindWord", "[C", true)
  | 23 => ("CalledRiverModel", "goesWord", "[C", true)
  | 24 => ("CalledRiverModel", "bakesWord", "[C", true)
  | 25 => ("CalledRiverModel", "yearWord", "[C", true)
  | 26 => ("CalledRiverModel", "beenWord", "[C", true)
  | 27 => ("CalledRiverModel", "heightWord", "[C", true)
  | 28 => ("CalledRiverModel", "downWord", "[C", true)
  | 29 => ("CalledRiverModel", "stepWord", "[C", true)
  | 30 => ("CalledRiverModel", "wetWord", "[C", true)
  | 31 => ("CalledRiverModel", "numberWord", "[C", true)
  | 32 => ("CalledRiverModel", "columnWord", "[C", true)
  | 33 => ("CalledRiverModel", "rowWord", "[C", true)
  | 34 => ("CalledRiverModel", "firstWord", "[C", true)
  | 35 => ("CalledRiverModel", "orWord", "[C", true)
  | 36 => ("CalledRiverModel", "andWord", "[C", true)
  | 37 => ("CalledRiverModel", "notWord", "[C", true)
  | 38 => ("CalledRiverModel", "allWord", "[C", true)
  | 39 => ("CalledRiverModel", "minWord", "[C", true)
  | 40 => ("CalledRiverModel", "maxWord", "[C", true)
  | 41 => ("CalledRiverModel", "namePlace", "I", false)
  | 42 => ("CalledRiverModel", "side", "[I", true)
  | 43 => ("CalledRiverModel", "sourceTold", "I", false)
  | 44 => ("CalledRiverModel", "source", "I", false)
  | 45 => ("CalledRiverModel", "many", "[I", true)
  | 46 => ("CalledRiverModel", "names", "[J", true)
  | 47 => ("CalledRiverModel", "farms", "[I", true)
  | 48 => ("CalledRiverModel", "callers", "[I", true)
  | 49 => ("CalledRiverModel", "heights", "[I", true)
  | 50 => ("CalledRiverModel", "stones", "[Z", true)
  | 51 => ("CalledRiverModel", "codeFrom", "[I", true)
  | 52 => ("CalledRiverModel", "codeEnd", "[I", true)
  | 53 => ("CalledRiverModel", "codes", "[I", true)
  | 54 => ("CalledRiverModel", "coded", "I", false)
  | 55 => ("CalledRiverModel", "statements", "I", false)
  | 56 => ("CalledRiverModel", "isPlain", "Z", false)
  | 57 => ("CalledRiverModel", "textKind", "I", false)
  | 58 => ("CalledRiverModel", "now", "[I", true)
  | 59 => ("CalledRiverModel", "askCaller", "I", false)
  | 60 => ("CalledRiverModel", "askCell", "I", false)
  | 61 => ("CalledRiverModel", "askStep", "I", false)
  | 62 => ("CalledRiverModel", "askWet", "I", false)
  | 63 => ("CalledRiverModel", "path", "[I", true)
  | 64 => ("CalledRiverModel", "pathMany", "I", false)
  | 65 => ("CalledRiverModel", "stepAt", "[I", true)
  | 66 => ("CalledRiverModel", "stepsTo", "[I", true)
  | 67 => ("CalledRiverModel", "canBe", "[Z", true)
  | 68 => ("CalledRiverModel", "canBeNext", "[Z", true)
  | 69 => ("CalledRiverModel", "isSet", "[Z", true)
  | 70 => ("CalledRiverModel", "wells", "[I", true)
  | 71 => ("CalledRiverModel", "pies", "[I", true)
  | 72 => ("CalledRiverModel", "path0", "[I", true)
  | 73 => ("CalledRiverModel", "counts", "[I", true)
  | 74 => ("CalledRiverModel", "rowMany", "I", false)
  | 75 => ("CalledRiverModel", "rows", "[I", true)
  | 76 => ("CalledRiverModel", "cellBy", "[I", true)
  | 77 => ("CalledRiverModel", "kept0", "[I", true)
  | 78 => ("CalledRiverModel", "undoable", "I", false)
  | 79 => ("CalledRiverModel", "newest", "I", false)
  | 80 => ("CalledRiverModel", "seeded", "J", false)
  | 81 => ("CalledRiverModel", "firstAsked", "[C", true)
  | 82 => ("CalledRiverModel", "lastAsked", "[C", true)
  | 83 => ("CalledRiverModel", "oftenAsked", "[C", true)
  | 84 => ("CalledRiverModel", "totalAsked", "[C", true)
  | 85 => ("CalledRiverModel", "mostAsked", "[C", true)
  | 86 => ("CalledRiverModel", "leastAsked", "[C", true)
  | 87 => ("CalledRiverModel", "notAsked", "[C", true)
  | 88 => ("CalledRiverModel", "andAsked", "[C", true)
  | 89 => ("CalledRiverModel", "orAsked", "[C", true)
  | 90 => ("CalledRiverModel", "allAsked", "[C", true)
  | 91 => ("CalledRiverModel", "minAsked", "[C", true)
  | 92 => ("CalledRiverModel", "maxAsked", "[C", true)
  | 93 => ("CalledRiverModel", "yearAsked", "[C", true)
  | 94 => ("CalledRiverModel", "pieAsked", "[C", true)
  | 95 => ("CalledRiverModel", "beenAsked", "[C", true)
  | 96 => ("CalledRiverModel", "boldAsked", "[C", true)
  | 97 => ("CalledRiverModel", "kindAsked", "[C", true)
  | 98 => ("CalledRiverModel", "heightAsked", "[C", true)
  | 99 => ("CalledRiverModel", "downAsked", "[C", true)
  | 100 => ("CalledRiverModel", "stepAsked", "[C", true)
  | 101 => ("CalledRiverModel", "wetAsked", "[C", true)
  | 102 => ("CalledRiverModel", "numberAsked", "[C", true)
  | 103 => ("CalledRiverModel", "columnAsked", "[C", true)
  | 104 => ("CalledRiverModel", "rowAsked", "[C", true)
  | 105 => ("CalledRiverModel", "dayAsked", "[C", true)
  | 106 => ("CalledRiverModel", "wetofAsked", "[C", true)
  | 107 => ("CalledRiverModel", "stepofAsked", "[C", true)
  | 108 => ("CalledRiverModel", "qCodes", "[I", true)
  | 109 => ("CalledRiverModel", "qCoded", "I", false)
  | 110 => ("CalledRiverModel", "qWait", "[I", true)
  | 111 => ("CalledRiverModel", "qWaits", "I", false)
  | 112 => ("CalledRiverModel", "qOpened", "I", false)
  | 113 => ("CalledRiverModel", "qBase", "I", false)
  | 114 => ("CalledRiverModel", "qPile", "[J", true)
  | 115 => ("CalledRiverModel", "qPiled", "I", false)
  | 116 => ("CalledRiverModel", "qAnswer", "J", false)
  | 117 => ("CalledRiverModel", "qIsNew", "Z", false)
  | 118 => ("CalledRiverModel", "octet", "[I", true)
  | _ => ("CalledRiverModel", "octets", "I", false)
def tyX12 : Nat → FieldType := fun k => match k with
  | 0 => .array .int
  | 1 => .int
  | 2 => .int
  | 3 => .int
  | 4 => .int
  | 5 => .int
  | 6 => .int
  | 7 => .int
  | 8 => .int
  | 9 => .array .int
  | 10 => .int
  | 11 => .array .char
  | 12 => .array .char
  | 13 => .array .char
  | 14 => .array .char
  | 15 => .array .char
  | 16 => .array .char
  | 17 => .array .char
  | 18 => .array .char
  | 19 => .array .char
  | 20 => .array .char
  | 21 => .array .char
  | 22 => .array .char
  | 23 => .array .char
  | 24 => .array .char
  | 25 => .array .char
  | 26 => .array .char
  | 27 => .array .char
  | 28 => .array .char
  | 29 => .array .char
  | 30 => .array .char
  | 31 => .array .char
  | 32 => .array .char
  | 33 => .array .char
  | 34 => .array .char
  | 35 => .array .char
  | 36 => .array .char
  | 37 => .array .char
  | 38 => .array .char
  | 39 => .array .char
  | 40 => .array .char
  | 41 => .int
  | 42 => .array .int
  | 43 => .int
  | 44 => .int
  | 45 => .array .int
  | 46 => .array .long
  | 47 => .array .int
  | 48 => .array .int
  | 49 => .array .int
  | 50 => .array .boolean
  | 51 => .array .int
  | 52 => .array .int
  | 53 => .array .int
  | 54 => .int
  | 55 => .int
  | 56 => .boolean
  | 57 => .int
  | 58 => .array .int
  | 59 => .int
  | 60 => .int
  | 61 => .int
  | 62 => .int
  | 63 => .array .int
  | 64 => .int
  | 65 => .array .int
  | 66 => .array .int
  | 67 => .array .boolean
  | 68 => .array .boolean
  | 69 => .array .boolean
  | 70 => .array .int
  | 71 => .array .int
  | 72 => .array .int
  | 73 => .array .int
  | 74 => .int
  | 75 => .array .int
  | 76 => .array .int
  | 77 => .array .int
  | 78 => .int
  | 79 => .int
  | 80 => .long
  | 81 => .array .char
  | 82 => .array .char
  | 83 => .array .char
  | 84 => .array .char
  | 85 => .array .char
  | 86 => .array .char
  | 87 => .array .char
  | 88 => .array .char
  | 89 => .array .char
  | 90 => .array .char
  | 91 => .array .char
  | 92 => .array .char
  | 93 => .array .char
  | 94 => .array .char
  | 95 => .array .char
  | 96 => .array .char
  | 97 => .array .char
  | 98 => .array .char
  | 99 => .array .char
  | 100 => .array .char
  | 101 => .array .char
  | 102 => .array .char
  | 103 => .array .char
  | 104 => .array .char
  | 105 => .array .char
  | 106 => .array .char
  | 107 => .array .char
  | 108 => .array .int
  | 109 => .int
  | 110 => .array .int
  | 111 => .int
  | 112 => .int
  | 113 => .int
  | 114 => .array .long
  | 115 => .int
  | 116 => .long
  | 117 => .boolean
  | 118 => .array .int
  | _ => .int
abbrev wsX120 : List Cond := u_ws RX12 TX12 120
theorem nmX12 : ∀ a, a < 120 → ∀ b, b < 120 → a ≠ b → (TX12 a).2.1 ≠ (TX12 b).2.1 := by decide +kernel
theorem tyX12_ok : ∀ k, k < 120 → parseFieldDescriptor (TX12 k).2.2.1 = some (tyX12 k) := by decide +kernel
abbrev cX12_init : ByteArray := prog_14_method_1_code
def yX12_init : MethodName := ⟨RX12, "<init>", "()V"⟩
abbrev cX12_isIn : ByteArray := prog_14_method_2_code
def yX12_isIn : MethodName := ⟨RX12, "isIn", "(JJJ)Z"⟩
abbrev cX12_feed : ByteArray := prog_14_method_3_code
def yX12_feed : MethodName := ⟨RX12, "feed", "(IIIII)I"⟩
abbrev cX12_end : ByteArray := prog_14_method_4_code
def yX12_end : MethodName := ⟨RX12, "end", "(I)Z"⟩
abbrev cX12_fail : ByteArray := prog_14_method_5_code
def yX12_fail : MethodName := ⟨RX12, "fail", "(II)V"⟩
abbrev cX12_isLetter : ByteArray := prog_14_method_6_code
def yX12_isLetter : MethodName := ⟨RX12, "isLetter", "(I)Z"⟩
abbrev cX12_isDigit : ByteArray := prog_14_method_7_code
def yX12_isDigit : MethodName := ⟨RX12, "isDigit", "(I)Z"⟩
abbrev cX12_look : ByteArray := prog_14_method_8_code
def yX12_look : MethodName := ⟨RX12, "look", "()I"⟩
abbrev cX12_isHere : ByteArray := prog_14_method_9_code
def yX12_isHere : MethodName := ⟨RX12, "isHere", "([C)Z"⟩
abbrev cX12_takes : ByteArray := prog_14_method_10_code
def yX12_takes : MethodName := ⟨RX12, "takes", "([C)Z"⟩
abbrev cX12_asks : ByteArray := prog_14_method_11_code
def yX12_asks : MethodName := ⟨RX12, "asks", "([C)V"⟩
abbrev cX12_takesSign : ByteArray := prog_14_method_12_code
def yX12_takesSign : MethodName := ⟨RX12, "takesSign", "(I)Z"⟩
abbrev cX12_asksSign : ByteArray := prog_14_method_13_code
def yX12_asksSign : MethodName := ⟨RX12, "asksSign", "(I)V"⟩
abbrev cX12_number : ByteArray := prog_14_method_14_code
def yX12_number : MethodName := ⟨RX12, "number", "(II)I"⟩
abbrev cX12_isOwnHere : ByteArray := prog_14_method_15_code
def yX12_isOwnHere : MethodName := ⟨RX12, "isOwnHere", "()Z"⟩
abbrev cX12_name : ByteArray := prog_14_method_16_code
def yX12_name : MethodName := ⟨RX12, "name", "()J"⟩
abbrev cX12_isAllowed : ByteArray := prog_14_method_17_code
def yX12_isAllowed : MethodName := ⟨RX12, "isAllowed", "(I)Z"⟩
abbrev cX12_isFull : ByteArray := prog_14_method_18_code
def yX12_isFull : MethodName := ⟨RX12, "isFull", "(III)Z"⟩
abbrev cX12_newName : ByteArray := prog_14_method_19_code
def yX12_newName : MethodName := ⟨RX12, "newName", "()J"⟩
abbrev cX12_plainTold : ByteArray := prog_14_method_20_code
def yX12_plainTold : MethodName := ⟨RX12, "plainTold", "()V"⟩
abbrev cX12_cellTold : ByteArray := prog_14_method_21_code
def yX12_cellTold : MethodName := ⟨RX12, "cellTold", "()I"⟩
abbrev cX12_highTold : ByteArray := prog_14_method_22_code
def yX12_highTold : MethodName := ⟨RX12, "highTold", "()V"⟩
abbrev cX12_stoneTold : ByteArray := prog_14_method_23_code
def yX12_stoneTold : MethodName := ⟨RX12, "stoneTold", "()V"⟩
abbrev cX12_farmTold : ByteArray := prog_14_method_24_code
def yX12_farmTold : MethodName := ⟨RX12, "farmTold", "(I)V"⟩
abbrev cX12_callerTold : ByteArray := prog_14_method_25_code
def yX12_callerTold : MethodName := ⟨RX12, "callerTold", "(I)V"⟩
abbrev cX12_codesTold : ByteArray := prog_14_method_26_code
def yX12_codesTold : MethodName := ⟨RX12, "codesTold", "(II)V"⟩
abbrev cX12_statementTold : ByteArray := prog_14_method_27_code
def yX12_statementTold : MethodName := ⟨RX12, "statementTold", "()V"⟩
abbrev cX12_plain : ByteArray := prog_14_method_28_code
def yX12_plain : MethodName := ⟨RX12, "plain", "()I"⟩
abbrev cX12_stands : ByteArray := prog_14_method_29_code
def yX12_stands : MethodName := ⟨RX12, "stands", "()V"⟩
abbrev cX12_fault : ByteArray := prog_14_method_30_code
def yX12_fault : MethodName := ⟨RX12, "fault", "(I)I"⟩
abbrev cX12_farmMany : ByteArray := prog_14_method_31_code
def yX12_farmMany : MethodName := ⟨RX12, "farmMany", "()I"⟩
abbrev cX12_callerMany : ByteArray := prog_14_method_32_code
def yX12_callerMany : MethodName := ⟨RX12, "callerMany", "()I"⟩
abbrev cX12_isFarm : ByteArray := prog_14_method_33_code
def yX12_isFarm : MethodName := ⟨RX12, "isFarm", "(I)Z"⟩
abbrev cX12_isCaller : ByteArray := prog_14_method_34_code
def yX12_isCaller : MethodName := ⟨RX12, "isCaller", "(J)Z"⟩
abbrev cX12_cellAt : ByteArray := prog_14_method_35_code
def yX12_cellAt : MethodName := ⟨RX12, "cellAt", "(II)I"⟩
abbrev cX12_cellMany : ByteArray := prog_14_method_36_code
def yX12_cellMany : MethodName := ⟨RX12, "cellMany", "()I"⟩
abbrev cX12_cellOfNumber : ByteArray := prog_14_method_37_code
def yX12_cellOfNumber : MethodName := ⟨RX12, "cellOfNumber", "(I)I"⟩
abbrev cX12_heightOf : ByteArray := prog_14_method_38_code
def yX12_heightOf : MethodName := ⟨RX12, "heightOf", "(I)I"⟩
abbrev cX12_isStone : ByteArray := prog_14_method_39_code
def yX12_isStone : MethodName := ⟨RX12, "isStone", "(I)Z"⟩
abbrev cX12_beenOf : ByteArray := prog_14_method_40_code
def yX12_beenOf : MethodName := ⟨RX12, "beenOf", "(I)I"⟩
abbrev cX12_cellOf : ByteArray := prog_14_method_41_code
def yX12_cellOf : MethodName := ⟨RX12, "cellOf", "(I)I"⟩
abbrev cX12_dayOf : ByteArray := prog_14_method_42_code
def yX12_dayOf : MethodName := ⟨RX12, "dayOf", "(I)I"⟩
abbrev cX12_pieOf : ByteArray := prog_14_method_43_code
def yX12_pieOf : MethodName := ⟨RX12, "pieOf", "(I)I"⟩
abbrev cX12_farmAt : ByteArray := prog_14_method_44_code
def yX12_farmAt : MethodName := ⟨RX12, "farmAt", "(I)I"⟩
abbrev cX12_pieAt : ByteArray := prog_14_method_45_code
def yX12_pieAt : MethodName := ⟨RX12, "pieAt", "(I)I"⟩
abbrev cX12_beside : ByteArray := prog_14_method_46_code
def yX12_beside : MethodName := ⟨RX12, "beside", "(II)I"⟩
abbrev cX12_canFlow : ByteArray := prog_14_method_47_code
def yX12_canFlow : MethodName := ⟨RX12, "canFlow", "(II)Z"⟩
abbrev cX12_hasWay : ByteArray := prog_14_method_48_code
def yX12_hasWay : MethodName := ⟨RX12, "hasWay", "()Z"⟩
abbrev cX12_codesTell : ByteArray := prog_14_method_49_code
def yX12_codesTell : MethodName := ⟨RX12, "codesTell", "(II)J"⟩
abbrev cX12_goesTo : ByteArray := prog_14_method_50_code
def yX12_goesTo : MethodName := ⟨RX12, "goesTo", "(II)J"⟩
abbrev cX12_nextOf : ByteArray := prog_14_method_51_code
def yX12_nextOf : MethodName := ⟨RX12, "nextOf", "(I)I"⟩
abbrev cX12_areBeside : ByteArray := prog_14_method_52_code
def yX12_areBeside : MethodName := ⟨RX12, "areBeside", "(II)Z"⟩
abbrev cX12_laysWay : ByteArray := prog_14_method_53_code
def yX12_laysWay : MethodName := ⟨RX12, "laysWay", "(I)V"⟩
abbrev cX12_isWatered : ByteArray := prog_14_method_54_code
def yX12_isWatered : MethodName := ⟨RX12, "isWatered", "(I)Z"⟩
abbrev cX12_wateredSet : ByteArray := prog_14_method_55_code
def yX12_wateredSet : MethodName := ⟨RX12, "wateredSet", "()I"⟩
abbrev cX12_bits : ByteArray := prog_14_method_56_code
def yX12_bits : MethodName := ⟨RX12, "bits", "(I)I"⟩
abbrev cX12_laysSteps : ByteArray := prog_14_method_57_code
def yX12_laysSteps : MethodName := ⟨RX12, "laysSteps", "(I)V"⟩
abbrev cX12_isKept : ByteArray := prog_14_method_58_code
def yX12_isKept : MethodName := ⟨RX12, "isKept", "(II)V"⟩
abbrev cX12_bakedBy : ByteArray := prog_14_method_59_code
def yX12_bakedBy : MethodName := ⟨RX12, "bakedBy", "(I)I"⟩
abbrev cX12_yearGoes : ByteArray := prog_14_method_60_code
def yX12_yearGoes : MethodName := ⟨RX12, "yearGoes", "(I)I"⟩
abbrev cX12_isAhead : ByteArray := prog_14_method_61_code
def yX12_isAhead : MethodName := ⟨RX12, "isAhead", "(III)Z"⟩
abbrev cX12_stoneMany : ByteArray := prog_14_method_62_code
def yX12_stoneMany : MethodName := ⟨RX12, "stoneMany", "()I"⟩
abbrev cX12_pieAll : ByteArray := prog_14_method_63_code
def yX12_pieAll : MethodName := ⟨RX12, "pieAll", "()I"⟩
abbrev cX12_has : ByteArray := prog_14_method_64_code
def yX12_has : MethodName := ⟨RX12, "has", "(I)I"⟩
abbrev cX12_letter : ByteArray := prog_14_method_65_code
def yX12_letter : MethodName := ⟨RX12, "letter", "(III)I"⟩
abbrev cX12_cell : ByteArray := prog_14_method_66_code
def yX12_cell : MethodName := ⟨RX12, "cell", "(III)I"⟩
abbrev cX12_farm : ByteArray := prog_14_method_67_code
def yX12_farm : MethodName := ⟨RX12, "farm", "(II)I"⟩
abbrev cX12_caller : ByteArray := prog_14_method_68_code
def yX12_caller : MethodName := ⟨RX12, "caller", "(II)I"⟩
abbrev cX12_kept : ByteArray := prog_14_method_69_code
def yX12_kept : MethodName := ⟨RX12, "kept", "(II)I"⟩
abbrev cX12_way : ByteArray := prog_14_method_70_code
def yX12_way : MethodName := ⟨RX12, "way", "(III)I"⟩
abbrev cX12_leads : ByteArray := prog_14_method_71_code
def yX12_leads : MethodName := ⟨RX12, "leads", "(II)I"⟩
abbrev cX12_best : ByteArray := prog_14_method_72_code
def yX12_best : MethodName := ⟨RX12, "best", "()I"⟩
abbrev cX12_setBehind : ByteArray := prog_14_method_73_code
def yX12_setBehind : MethodName := ⟨RX12, "setBehind", "(III)I"⟩
abbrev cX12_isBegun : ByteArray := prog_14_method_74_code
def yX12_isBegun : MethodName := ⟨RX12, "isBegun", "()Z"⟩
abbrev cX12_stepGoes : ByteArray := prog_14_method_75_code
def yX12_stepGoes : MethodName := ⟨RX12, "stepGoes", "(I)V"⟩
abbrev cX12_isThere : ByteArray := prog_14_method_76_code
def yX12_isThere : MethodName := ⟨RX12, "isThere", "(I)Z"⟩
abbrev cX12_least : ByteArray := prog_14_method_77_code
def yX12_least : MethodName := ⟨RX12, "least", "(I)I"⟩
abbrev cX12_dry : ByteArray := prog_14_method_78_code
def yX12_dry : MethodName := ⟨RX12, "dry", "()I"⟩
abbrev cX12_bid : ByteArray := prog_14_method_79_code
def yX12_bid : MethodName := ⟨RX12, "bid", "(II)I"⟩
abbrev cX12_laysWells : ByteArray := prog_14_method_80_code
def yX12_laysWells : MethodName := ⟨RX12, "laysWells", "(I)V"⟩
abbrev cX12_isRest : ByteArray := prog_14_method_81_code
def yX12_isRest : MethodName := ⟨RX12, "isRest", "(I)Z"⟩
abbrev cX12_rest : ByteArray := prog_14_method_82_code
def yX12_rest : MethodName := ⟨RX12, "rest", "(I)I"⟩
abbrev cX12_parts : ByteArray := prog_14_method_83_code
def yX12_parts : MethodName := ⟨RX12, "parts", "(III)I"⟩
abbrev cX12_mill : ByteArray := prog_14_method_84_code
def yX12_mill : MethodName := ⟨RX12, "mill", "(I)I"⟩
abbrev cX12_refuses : ByteArray := prog_14_method_85_code
def yX12_refuses : MethodName := ⟨RX12, "refuses", "(I)I"⟩
abbrev cX12_see : ByteArray := prog_14_method_86_code
def yX12_see : MethodName := ⟨RX12, "see", "()I"⟩
abbrev cX12_laysCells : ByteArray := prog_14_method_87_code
def yX12_laysCells : MethodName := ⟨RX12, "laysCells", "()V"⟩
abbrev cX12_isAsSeen : ByteArray := prog_14_method_88_code
def yX12_isAsSeen : MethodName := ⟨RX12, "isAsSeen", "(I)Z"⟩
abbrev cX12_whoCan : ByteArray := prog_14_method_89_code
def yX12_whoCan : MethodName := ⟨RX12, "whoCan", "()I"⟩
abbrev cX12_who : ByteArray := prog_14_method_90_code
def yX12_who : MethodName := ⟨RX12, "who", "()I"⟩
abbrev cX12_mostAlike : ByteArray := prog_14_method_91_code
def yX12_mostAlike : MethodName := ⟨RX12, "mostAlike", "(II)I"⟩
abbrev cX12_tells : ByteArray := prog_14_method_92_code
def yX12_tells : MethodName := ⟨RX12, "tells", "(I)I"⟩
abbrev cX12_keeps : ByteArray := prog_14_method_93_code
def yX12_keeps : MethodName := ⟨RX12, "keeps", "()V"⟩
abbrev cX12_undo : ByteArray := prog_14_method_94_code
def yX12_undo : MethodName := ⟨RX12, "undo", "()Z"⟩
abbrev cX12_spring : ByteArray := prog_14_method_95_code
def yX12_spring : MethodName := ⟨RX12, "spring", "(I)I"⟩
abbrev cX12_isRefused : ByteArray := prog_14_method_96_code
def yX12_isRefused : MethodName := ⟨RX12, "isRefused", "()Z"⟩
abbrev cX12_bake : ByteArray := prog_14_method_97_code
def yX12_bake : MethodName := ⟨RX12, "bake", "(II)Z"⟩
abbrev cX12_dig : ByteArray := prog_14_method_98_code
def yX12_dig : MethodName := ⟨RX12, "dig", "(II)I"⟩
abbrev cX12_stone : ByteArray := prog_14_method_99_code
def yX12_stone : MethodName := ⟨RX12, "stone", "(III)Z"⟩
abbrev cX12_seed : ByteArray := prog_14_method_100_code
def yX12_seed : MethodName := ⟨RX12, "seed", "(I)Z"⟩
abbrev cX12_drawOf : ByteArray := prog_14_method_101_code
def yX12_drawOf : MethodName := ⟨RX12, "drawOf", "(I)I"⟩
abbrev cX12_chance : ByteArray := prog_14_method_102_code
def yX12_chance : MethodName := ⟨RX12, "chance", "(I)I"⟩
abbrev cX12_qCode : ByteArray := prog_14_method_103_code
def yX12_qCode : MethodName := ⟨RX12, "qCode", "(I)V"⟩
abbrev cX12_qOpens : ByteArray := prog_14_method_104_code
def yX12_qOpens : MethodName := ⟨RX12, "qOpens", "(II)V"⟩
abbrev cX12_qIsOn : ByteArray := prog_14_method_105_code
def yX12_qIsOn : MethodName := ⟨RX12, "qIsOn", "(I)Z"⟩
abbrev cX12_qDrops : ByteArray := prog_14_method_106_code
def yX12_qDrops : MethodName := ⟨RX12, "qDrops", "()V"⟩
abbrev cX12_qIsBracket : ByteArray := prog_14_method_107_code
def yX12_qIsBracket : MethodName := ⟨RX12, "qIsBracket", "(I)Z"⟩
abbrev cX12_qBracket : ByteArray := prog_14_method_108_code
def yX12_qBracket : MethodName := ⟨RX12, "qBracket", "()I"⟩
abbrev cX12_qDropsToBracket : ByteArray := prog_14_method_109_code
def yX12_qDropsToBracket : MethodName := ⟨RX12, "qDropsToBracket", "()V"⟩
abbrev cX12_qWordHere : ByteArray := prog_14_method_110_code
def yX12_qWordHere : MethodName := ⟨RX12, "qWordHere", "()I"⟩
abbrev cX12_qWordOf : ByteArray := prog_14_method_111_code
def yX12_qWordOf : MethodName := ⟨RX12, "qWordOf", "(II)I"⟩
abbrev cX12_qAsksWord : ByteArray := prog_14_method_112_code
def yX12_qAsksWord : MethodName := ⟨RX12, "qAsksWord", "(I)V"⟩
abbrev cX12_qEndsPart : ByteArray := prog_14_method_113_code
def yX12_qEndsPart : MethodName := ⟨RX12, "qEndsPart", "()V"⟩
abbrev cX12_qPartTold : ByteArray := prog_14_method_114_code
def yX12_qPartTold : MethodName := ⟨RX12, "qPartTold", "()V"⟩
abbrev cX12_qGoesOn : ByteArray := prog_14_method_115_code
def yX12_qGoesOn : MethodName := ⟨RX12, "qGoesOn", "()Z"⟩
abbrev cX12_qSums : ByteArray := prog_14_method_116_code
def yX12_qSums : MethodName := ⟨RX12, "qSums", "()V"⟩
abbrev cX12_qFact : ByteArray := prog_14_method_117_code
def yX12_qFact : MethodName := ⟨RX12, "qFact", "()V"⟩
abbrev cX12_qHasSquare : ByteArray := prog_14_method_118_code
def yX12_qHasSquare : MethodName := ⟨RX12, "qHasSquare", "()Z"⟩
abbrev cX12_qDropsNots : ByteArray := prog_14_method_119_code
def yX12_qDropsNots : MethodName := ⟨RX12, "qDropsNots", "()V"⟩
abbrev cX12_qTest : ByteArray := prog_14_method_120_code
def yX12_qTest : MethodName := ⟨RX12, "qTest", "()V"⟩
abbrev cX12_qGoesOnTest : ByteArray := prog_14_method_121_code
def yX12_qGoesOnTest : MethodName := ⟨RX12, "qGoesOnTest", "()Z"⟩
abbrev cX12_qClip : ByteArray := prog_14_method_122_code
def yX12_qClip : MethodName := ⟨RX12, "qClip", "(J)J"⟩
abbrev cX12_qFloor : ByteArray := prog_14_method_123_code
def yX12_qFloor : MethodName := ⟨RX12, "qFloor", "(JJ)J"⟩
abbrev cX12_qPuts : ByteArray := prog_14_method_124_code
def yX12_qPuts : MethodName := ⟨RX12, "qPuts", "(J)V"⟩
abbrev cX12_qJoins : ByteArray := prog_14_method_125_code
def yX12_qJoins : MethodName := ⟨RX12, "qJoins", "(I)V"⟩
abbrev cX12_qPartOf : ByteArray := prog_14_method_126_code
def yX12_qPartOf : MethodName := ⟨RX12, "qPartOf", "(II)J"⟩
abbrev cX12_qOf : ByteArray := prog_14_method_127_code
def yX12_qOf : MethodName := ⟨RX12, "qOf", "(IJI)J"⟩
abbrev cX12_qTold : ByteArray := prog_14_method_128_code
def yX12_qTold : MethodName := ⟨RX12, "qTold", "(I)J"⟩
abbrev cX12_qKind : ByteArray := prog_14_method_129_code
def yX12_qKind : MethodName := ⟨RX12, "qKind", "()I"⟩
abbrev cX12_qTakes : ByteArray := prog_14_method_130_code
def yX12_qTakes : MethodName := ⟨RX12, "qTakes", "(IJI)V"⟩
abbrev cX12_ask : ByteArray := prog_14_method_131_code
def yX12_ask : MethodName := ⟨RX12, "ask", "()J"⟩
abbrev cX12_checked : ByteArray := prog_14_method_132_code
def yX12_checked : MethodName := ⟨RX12, "checked", "([II)I"⟩
abbrev cX12_writes : ByteArray := prog_14_method_133_code
def yX12_writes : MethodName := ⟨RX12, "writes", "(I)V"⟩
abbrev cX12_image : ByteArray := prog_14_method_134_code
def yX12_image : MethodName := ⟨RX12, "image", "()I"⟩
abbrev cX12_octet : ByteArray := prog_14_method_135_code
def yX12_octet : MethodName := ⟨RX12, "octet", "(I)I"⟩
abbrev cX12_isImage : ByteArray := prog_14_method_136_code
def yX12_isImage : MethodName := ⟨RX12, "isImage", "(I)Z"⟩
abbrev cX12_on : ByteArray := prog_14_method_137_code
def yX12_on : MethodName := ⟨RX12, "on", "()Z"⟩
abbrev cX12_status : ByteArray := prog_14_method_138_code
def yX12_status : MethodName := ⟨RX12, "status", "(I)I"⟩
def RJ6 : String := "java/lang/Integer"
abbrev cJ6_bitCount_0f7a4 : ByteArray := prog_15_method_49_code
def yJ6_bitCount_0f7a4 : MethodName := ⟨RJ6, "bitCount", "(I)I"⟩
def RJ9 : String := "java/lang/Math"
abbrev cJ9_floorDiv_f86c9 : ByteArray := prog_16_method_49_code
def yJ9_floorDiv_f86c9 : MethodName := ⟨RJ9, "floorDiv", "(JJ)J"⟩
abbrev cJ9_max_7cf53 : ByteArray := prog_16_method_65_code
def yJ9_max_7cf53 : MethodName := ⟨RJ9, "max", "(II)I"⟩
abbrev cJ9_max_f86c9 : ByteArray := prog_16_method_66_code
def yJ9_max_f86c9 : MethodName := ⟨RJ9, "max", "(JJ)J"⟩
abbrev cJ9_min_7cf53 : ByteArray := prog_16_method_69_code
def yJ9_min_7cf53 : MethodName := ⟨RJ9, "min", "(II)I"⟩
abbrev cJ9_min_f86c9 : ByteArray := prog_16_method_70_code
def yJ9_min_f86c9 : MethodName := ⟨RJ9, "min", "(JJ)J"⟩
def RJ0 : String := "java/lang/String"
abbrev cJ0_length_8abf5 : ByteArray := prog_17_method_54_code
def yJ0_length_8abf5 : MethodName := ⟨RJ0, "length", "()I"⟩
abbrev cJ0_charAt_5068e : ByteArray := prog_17_method_56_code
def yJ0_charAt_5068e : MethodName := ⟨RJ0, "charAt", "(I)C"⟩
abbrev cJ0_coder_7d493 : ByteArray := prog_17_method_152_code
def yJ0_coder_7d493 : MethodName := ⟨RJ0, "coder", "()B"⟩
abbrev cJ0_isLatin1_aae02 : ByteArray := prog_17_method_154_code
def yJ0_isLatin1_aae02 : MethodName := ⟨RJ0, "isLatin1", "()Z"⟩
abbrev cJ0_checkIndex_df160 : ByteArray := prog_17_method_155_code
def yJ0_checkIndex_df160 : MethodName := ⟨RJ0, "checkIndex", "(II)V"⟩
def RJ1 : String := "java/lang/StringLatin1"
abbrev cJ1_charAt_3b067 : ByteArray := prog_18_method_2_code
def yJ1_charAt_3b067 : MethodName := ⟨RJ1, "charAt", "([BI)C"⟩
def RJ2 : String := "java/lang/StringUTF16"
abbrev cJ2_getChar_3b067 : ByteArray := prog_19_method_5_code
def yJ2_getChar_3b067 : MethodName := ⟨RJ2, "getChar", "([BI)C"⟩
abbrev cJ2_length_9d52b : ByteArray := prog_19_method_6_code
def yJ2_length_9d52b : MethodName := ⟨RJ2, "length", "([B)I"⟩
abbrev cJ2_charAt_3b067 : ByteArray := prog_19_method_83_code
def yJ2_charAt_3b067 : MethodName := ⟨RJ2, "charAt", "([BI)C"⟩
abbrev cJ2_checkIndex_2214a : ByteArray := prog_19_method_91_code
def yJ2_checkIndex_2214a : MethodName := ⟨RJ2, "checkIndex", "(I[B)V"⟩
def RJ10 : String := "java/lang/System"
def RJ7 : String := "java/util/Arrays"
abbrev cJ7_fill_53178 : ByteArray := prog_21_method_103_code
def yJ7_fill_53178 : MethodName := ⟨RJ7, "fill", "([II)V"⟩
def RJ3 : String := "jdk/internal/util/Preconditions"
abbrev cJ3_checkIndex_8e157 : ByteArray := prog_22_method_11_code
def yJ3_checkIndex_8e157 : MethodName := ⟨RJ3, "checkIndex", "(IILjava/util/function/BiFunction;)I"⟩
def RL : String := "CalledRiverLaw"
abbrev cL_law : ByteArray := code
def yL_law : MethodName := ⟨RL, "law", "([I)Z"⟩
abbrev vwCl : List vw_C := [(RX0, TX0, 3), (RX1, TX1, 6), (RX2, TX2, 4), (RX3, TX3, 6), (RX4, TX4, 2), (RX5, TX5, 17), (RX6, TX6, 4), (RX7, TX7, 3), (RX8, TX8, 3), (RX9, TX9, 7), (RX10, TX10, 7), (RX11, TX11, 19), (RX12, TX12, 120)]
def TBg : List Cond := lw_tbl.filter goodWord
theorem tb_of {w : Cond} (h : w ∈ lw_tbl) (g : goodWord w = true) : w ∈ TBg := List.mem_filter.mpr ⟨h, g⟩
theorem mt_1 {w : Cond} (h : w ∈ tables_1_1) : w ∈ lw_tbl := List.mem_append_right _ (List.mem_append_left _ h)
theorem tm_1 {w : Cond} (j : Nat) (h : tables_1_1[j]? = some w) (g : goodWord w = true) : w ∈ TBg := tb_of (mt_1 (List.mem_of_getElem? h)) g
theorem mt_2 {w : Cond} (h : w ∈ tables_1_2) : w ∈ lw_tbl := List.mem_append_right _ (List.mem_append_right _ (List.mem_append_left _ h))
theorem tm_2 {w : Cond} (j : Nat) (h : tables_1_2[j]? = some w) (g : goodWord w = true) : w ∈ TBg := tb_of (mt_2 (List.mem_of_getElem? h)) g
theorem mt_3 {w : Cond} (h : w ∈ tables_1_3) : w ∈ lw_tbl := List.mem_append_right _ (List.mem_append_right _ (List.mem_append_right _ (List.mem_append_left _ h)))
theorem tm_3 {w : Cond} (j : Nat) (h : tables_1_3[j]? = some w) (g : goodWord w = true) : w ∈ TBg := tb_of (mt_3 (List.mem_of_getElem? h)) g
theorem mt_4 {w : Cond} (h : w ∈ tables_1_4) : w ∈ lw_tbl := List.mem_append_right _ (List.mem_append_right _ (List.mem_append_right _ (List.mem_append_right _ (List.mem_append_left _ h))))
theorem tm_4 {w : Cond} (j : Nat) (h : tables_1_4[j]? = some w) (g : goodWord w = true) : w ∈ TBg := tb_of (mt_4 (List.mem_of_getElem? h)) g
theorem mt_5 {w : Cond} (h : w ∈ tables_1_5) : w ∈ lw_tbl := List.mem_append_right _ (List.mem_append_right _ (List.mem_append_right _ (List.mem_append_right _ (List.mem_append_right _ (List.mem_append_left _ h)))))
theorem tm_5 {w : Cond} (j : Nat) (h : tables_1_5[j]? = some w) (g : goodWord w = true) : w ∈ TBg := tb_of (mt_5 (List.mem_of_getElem? h)) g
theorem mt_6 {w : Cond} (h : w ∈ tables_1_6) : w ∈ lw_tbl := List.mem_append_right _ (List.mem_append_right _ (List.mem_append_right _ (List.mem_append_right _ (List.mem_append_right _ (List.mem_append_right _ (List.mem_append_left _ h))))))
theorem tm_6 {w : Cond} (j : Nat) (h : tables_1_6[j]? = some w) (g : goodWord w = true) : w ∈ TBg := tb_of (mt_6 (List.mem_of_getElem? h)) g
theorem mt_7 {w : Cond} (h : w ∈ tables_1_7) : w ∈ lw_tbl := List.mem_append_right _ (List.mem_append_right _ (List.mem_append_right _ (List.mem_append_right _ (List.mem_append_right _ (List.mem_append_right _ (List.mem_append_right _ (List.mem_append_left _ h)))))))
theorem tm_7 {w : Cond} (j : Nat) (h : tables_1_7[j]? = some w) (g : goodWord w = true) : w ∈ TBg := tb_of (mt_7 (List.mem_of_getElem? h)) g
theorem mt_8 {w : Cond} (h : w ∈ tables_1_8) : w ∈ lw_tbl := List.mem_append_right _ (List.mem_append_right _ (List.mem_append_right _ (List.mem_append_right _ (List.mem_append_right _ (List.mem_append_right _ (List.mem_append_right _ (List.mem_append_right _ (List.mem_append_left _ h))))))))
theorem tm_8 {w : Cond} (j : Nat) (h : tables_1_8[j]? = some w) (g : goodWord w = true) : w ∈ TBg := tb_of (mt_8 (List.mem_of_getElem? h)) g
theorem mt_9 {w : Cond} (h : w ∈ tables_1_9) : w ∈ lw_tbl := List.mem_append_right _ (List.mem_append_right _ (List.mem_append_right _ (List.mem_append_right _ (List.mem_append_right _ (List.mem_append_right _ (List.mem_append_right _ (List.mem_append_right _ (List.mem_append_right _ h))))))))
theorem tm_9 {w : Cond} (j : Nat) (h : tables_1_9[j]? = some w) (g : goodWord w = true) : w ∈ TBg := tb_of (mt_9 (List.mem_of_getElem? h)) g
