section
-- ===== PART A: goes FIRST, ahead of the names: the tables' words, and 'selects' of the private methods out of them =====
/-- a private method of a class that the tables say can be made, by its rows of tables_1 -/
def lw_okq (q : MethodName × Nat) : Prop := (q.1.cls ≠ "java/lang/invoke/MethodHandle" ∧ q.1.cls ≠ "java/lang/invoke/VarHandle") ∧ Cond.instantiable q.1.cls q.2 ∈ tables_1 ∧ Cond.privateMethod q.1 ∈ tables_1 ∧ Cond.instanceMethod q.1 ∈ tables_1
theorem lw_p0 : lw_okq (⟨"StairWays$Stair", "findFarthest", "()V"⟩, 17) := ⟨⟨by decide +kernel, by decide +kernel⟩, List.mem_of_getElem? (i := 274) (by decide +kernel), List.mem_of_getElem? (i := 410) (by decide +kernel), List.mem_of_getElem? (i := 411) (by decide +kernel)⟩
theorem lw_p1 : lw_okq (⟨"StairWays$Stair", "findHeaps", "()V"⟩, 17) := ⟨⟨by decide +kernel, by decide +kernel⟩, List.mem_of_getElem? (i := 274) (by decide +kernel), List.mem_of_getElem? (i := 414) (by decide +kernel), List.mem_of_getElem? (i := 415) (by decide +kernel)⟩
theorem lw_p2 : lw_okq (⟨"StairWays$Stair", "leastHeap", "(I)I"⟩, 17) := ⟨⟨by decide +kernel, by decide +kernel⟩, List.mem_of_getElem? (i := 274) (by decide +kernel), List.mem_of_getElem? (i := 418) (by decide +kernel), List.mem_of_getElem? (i := 419) (by decide +kernel)⟩
theorem lw_p3 : lw_okq (⟨"StairWays$Tape", "readWord", "()V"⟩, 6) := ⟨⟨by decide +kernel, by decide +kernel⟩, List.mem_of_getElem? (i := 40) (by decide +kernel), List.mem_of_getElem? (i := 496) (by decide +kernel), List.mem_of_getElem? (i := 497) (by decide +kernel)⟩
theorem lw_p4 : lw_okq (⟨"StairWays$Tape", "readNumber", "()V"⟩, 6) := ⟨⟨by decide +kernel, by decide +kernel⟩, List.mem_of_getElem? (i := 40) (by decide +kernel), List.mem_of_getElem? (i := 503) (by decide +kernel), List.mem_of_getElem? (i := 504) (by decide +kernel)⟩
theorem lw_p5 : lw_okq (⟨"StairWays$StairReader", "readFirst", "(LStairWays$Stair;)Z"⟩, 4) := ⟨⟨by decide +kernel, by decide +kernel⟩, List.mem_of_getElem? (i := 34) (by decide +kernel), List.mem_of_getElem? (i := 594) (by decide +kernel), List.mem_of_getElem? (i := 595) (by decide +kernel)⟩
theorem lw_p6 : lw_okq (⟨"StairWays$StairReader", "takeWord", "(Ljava/lang/String;)Z"⟩, 4) := ⟨⟨by decide +kernel, by decide +kernel⟩, List.mem_of_getElem? (i := 34) (by decide +kernel), List.mem_of_getElem? (i := 599) (by decide +kernel), List.mem_of_getElem? (i := 600) (by decide +kernel)⟩
theorem lw_p7 : lw_okq (⟨"StairWays$StairReader", "fail", "(I)Z"⟩, 4) := ⟨⟨by decide +kernel, by decide +kernel⟩, List.mem_of_getElem? (i := 34) (by decide +kernel), List.mem_of_getElem? (i := 628) (by decide +kernel), List.mem_of_getElem? (i := 629) (by decide +kernel)⟩
theorem lw_p8 : lw_okq (⟨"StairWays$StairReader", "takeNumber", "(II)Z"⟩, 4) := ⟨⟨by decide +kernel, by decide +kernel⟩, List.mem_of_getElem? (i := 34) (by decide +kernel), List.mem_of_getElem? (i := 633) (by decide +kernel), List.mem_of_getElem? (i := 634) (by decide +kernel)⟩
theorem lw_p9 : lw_okq (⟨"StairWays$StairReader", "isNumber", "(II)Z"⟩, 4) := ⟨⟨by decide +kernel, by decide +kernel⟩, List.mem_of_getElem? (i := 34) (by decide +kernel), List.mem_of_getElem? (i := 637) (by decide +kernel), List.mem_of_getElem? (i := 638) (by decide +kernel)⟩
theorem lw_p10 : lw_okq (⟨"StairWays$StairReader", "takeSign", "(C)Z"⟩, 4) := ⟨⟨by decide +kernel, by decide +kernel⟩, List.mem_of_getElem? (i := 34) (by decide +kernel), List.mem_of_getElem? (i := 641) (by decide +kernel), List.mem_of_getElem? (i := 642) (by decide +kernel)⟩
theorem lw_p11 : lw_okq (⟨"StairWays$StairReader", "readLine", "(LStairWays$Stair;)Z"⟩, 4) := ⟨⟨by decide +kernel, by decide +kernel⟩, List.mem_of_getElem? (i := 34) (by decide +kernel), List.mem_of_getElem? (i := 645) (by decide +kernel), List.mem_of_getElem? (i := 646) (by decide +kernel)⟩
theorem lw_p12 : lw_okq (⟨"StairWays$StairReader", "isFirst", "(I)Z"⟩, 4) := ⟨⟨by decide +kernel, by decide +kernel⟩, List.mem_of_getElem? (i := 34) (by decide +kernel), List.mem_of_getElem? (i := 650) (by decide +kernel), List.mem_of_getElem? (i := 651) (by decide +kernel)⟩
theorem lw_p13 : lw_okq (⟨"StairWays$StairReader", "readStrides", "(LStairWays$Stair;)Z"⟩, 4) := ⟨⟨by decide +kernel, by decide +kernel⟩, List.mem_of_getElem? (i := 34) (by decide +kernel), List.mem_of_getElem? (i := 654) (by decide +kernel), List.mem_of_getElem? (i := 655) (by decide +kernel)⟩
theorem lw_p14 : lw_okq (⟨"StairWays$StairReader", "readStep", "(LStairWays$Stair;I)Z"⟩, 4) := ⟨⟨by decide +kernel, by decide +kernel⟩, List.mem_of_getElem? (i := 34) (by decide +kernel), List.mem_of_getElem? (i := 664) (by decide +kernel), List.mem_of_getElem? (i := 665) (by decide +kernel)⟩
theorem lw_p15 : lw_okq (⟨"StairWays$StairReader", "readCreaks", "(LStairWays$Stair;)Z"⟩, 4) := ⟨⟨by decide +kernel, by decide +kernel⟩, List.mem_of_getElem? (i := 34) (by decide +kernel), List.mem_of_getElem? (i := 671) (by decide +kernel), List.mem_of_getElem? (i := 672) (by decide +kernel)⟩
def lw_privs_1 : List (MethodName × Nat) := [(⟨"StairWays$Stair", "findFarthest", "()V"⟩, 17), (⟨"StairWays$Stair", "findHeaps", "()V"⟩, 17), (⟨"StairWays$Stair", "leastHeap", "(I)I"⟩, 17), (⟨"StairWays$Tape", "readWord", "()V"⟩, 6), (⟨"StairWays$Tape", "readNumber", "()V"⟩, 6), (⟨"StairWays$StairReader", "readFirst", "(LStairWays$Stair;)Z"⟩, 4), (⟨"StairWays$StairReader", "takeWord", "(Ljava/lang/String;)Z"⟩, 4), (⟨"StairWays$StairReader", "fail", "(I)Z"⟩, 4), (⟨"StairWays$StairReader", "takeNumber", "(II)Z"⟩, 4), (⟨"StairWays$StairReader", "isNumber", "(II)Z"⟩, 4), (⟨"StairWays$StairReader", "takeSign", "(C)Z"⟩, 4), (⟨"StairWays$StairReader", "readLine", "(LStairWays$Stair;)Z"⟩, 4), (⟨"StairWays$StairReader", "isFirst", "(I)Z"⟩, 4), (⟨"StairWays$StairReader", "readStrides", "(LStairWays$Stair;)Z"⟩, 4), (⟨"StairWays$StairReader", "readStep", "(LStairWays$Stair;I)Z"⟩, 4), (⟨"StairWays$StairReader", "readCreaks", "(LStairWays$Stair;)Z"⟩, 4)]
theorem lw_r1 : ∀ q ∈ lw_privs_1, lw_okq q := List.forall_mem_cons.mpr ⟨lw_p0, List.forall_mem_cons.mpr ⟨lw_p1, List.forall_mem_cons.mpr ⟨lw_p2, List.forall_mem_cons.mpr ⟨lw_p3, List.forall_mem_cons.mpr ⟨lw_p4, List.forall_mem_cons.mpr ⟨lw_p5, List.forall_mem_cons.mpr ⟨lw_p6, List.forall_mem_cons.mpr ⟨lw_p7, List.forall_mem_cons.mpr ⟨lw_p8, List.forall_mem_cons.mpr ⟨lw_p9, List.forall_mem_cons.mpr ⟨lw_p10, List.forall_mem_cons.mpr ⟨lw_p11, List.forall_mem_cons.mpr ⟨lw_p12, List.forall_mem_cons.mpr ⟨lw_p13, List.forall_mem_cons.mpr ⟨lw_p14, List.forall_mem_cons.mpr ⟨lw_p15, fun _ h => absurd h List.not_mem_nil⟩⟩⟩⟩⟩⟩⟩⟩⟩⟩⟩⟩⟩⟩⟩⟩
theorem lw_p16 : lw_okq (⟨"StairWays$StairReader", "readBar", "(LStairWays$Stair;)Z"⟩, 4) := ⟨⟨by decide +kernel, by decide +kernel⟩, List.mem_of_getElem? (i := 34) (by decide +kernel), List.mem_of_getElem? (i := 676) (by decide +kernel), List.mem_of_getElem? (i := 677) (by decide +kernel)⟩
theorem lw_p17 : lw_okq (⟨"StairWays$StairReader", "readFoot", "(LStairWays$Stair;)Z"⟩, 4) := ⟨⟨by decide +kernel, by decide +kernel⟩, List.mem_of_getElem? (i := 34) (by decide +kernel), List.mem_of_getElem? (i := 685) (by decide +kernel), List.mem_of_getElem? (i := 686) (by decide +kernel)⟩
theorem lw_p18 : lw_okq (⟨"StairWays$StairReader", "readCount", "(LStairWays$Stair;)Z"⟩, 4) := ⟨⟨by decide +kernel, by decide +kernel⟩, List.mem_of_getElem? (i := 34) (by decide +kernel), List.mem_of_getElem? (i := 692) (by decide +kernel), List.mem_of_getElem? (i := 693) (by decide +kernel)⟩
theorem lw_p19 : lw_okq (⟨"StairWays$StairReader", "readGreat", "(LStairWays$Stair;)Z"⟩, 4) := ⟨⟨by decide +kernel, by decide +kernel⟩, List.mem_of_getElem? (i := 34) (by decide +kernel), List.mem_of_getElem? (i := 698) (by decide +kernel), List.mem_of_getElem? (i := 699) (by decide +kernel)⟩
theorem lw_p20 : lw_okq (⟨"StairWays$StairReader", "readEither", "(LStairWays$Mood;I)Z"⟩, 4) := ⟨⟨by decide +kernel, by decide +kernel⟩, List.mem_of_getElem? (i := 34) (by decide +kernel), List.mem_of_getElem? (i := 704) (by decide +kernel), List.mem_of_getElem? (i := 705) (by decide +kernel)⟩
theorem lw_p21 : lw_okq (⟨"StairWays$StairReader", "readTest", "(LStairWays$Mood;I)Z"⟩, 4) := ⟨⟨by decide +kernel, by decide +kernel⟩, List.mem_of_getElem? (i := 34) (by decide +kernel), List.mem_of_getElem? (i := 708) (by decide +kernel), List.mem_of_getElem? (i := 709) (by decide +kernel)⟩
theorem lw_p22 : lw_okq (⟨"StairWays$StairReader", "readSum", "(LStairWays$Mood;I)Z"⟩, 4) := ⟨⟨by decide +kernel, by decide +kernel⟩, List.mem_of_getElem? (i := 34) (by decide +kernel), List.mem_of_getElem? (i := 712) (by decide +kernel), List.mem_of_getElem? (i := 713) (by decide +kernel)⟩
theorem lw_p23 : lw_okq (⟨"StairWays$StairReader", "readProduct", "(LStairWays$Mood;I)Z"⟩, 4) := ⟨⟨by decide +kernel, by decide +kernel⟩, List.mem_of_getElem? (i := 34) (by decide +kernel), List.mem_of_getElem? (i := 716) (by decide +kernel), List.mem_of_getElem? (i := 717) (by decide +kernel)⟩
theorem lw_p24 : lw_okq (⟨"StairWays$StairReader", "readPart", "(LStairWays$Mood;I)Z"⟩, 4) := ⟨⟨by decide +kernel, by decide +kernel⟩, List.mem_of_getElem? (i := 34) (by decide +kernel), List.mem_of_getElem? (i := 720) (by decide +kernel), List.mem_of_getElem? (i := 721) (by decide +kernel)⟩
theorem lw_p25 : lw_okq (⟨"StairWays$StairReader", "namedFact", "()I"⟩, 4) := ⟨⟨by decide +kernel, by decide +kernel⟩, List.mem_of_getElem? (i := 34) (by decide +kernel), List.mem_of_getElem? (i := 725) (by decide +kernel), List.mem_of_getElem? (i := 726) (by decide +kernel)⟩
theorem lw_p26 : lw_okq (⟨"StairWays", "beginAnew", "()V"⟩, 14) := ⟨⟨by decide +kernel, by decide +kernel⟩, List.mem_of_getElem? (i := 26) (by decide +kernel), List.mem_of_getElem? (i := 740) (by decide +kernel), List.mem_of_getElem? (i := 741) (by decide +kernel)⟩
theorem lw_p27 : lw_okq (⟨"StairWays", "manyFrom", "(LStairWays$Climber;)J"⟩, 14) := ⟨⟨by decide +kernel, by decide +kernel⟩, List.mem_of_getElem? (i := 26) (by decide +kernel), List.mem_of_getElem? (i := 811) (by decide +kernel), List.mem_of_getElem? (i := 812) (by decide +kernel)⟩
theorem lw_p28 : lw_okq (⟨"StairWays$Ways", "begin", "(LStairWays$Stair;III)V"⟩, 11) := ⟨⟨by decide +kernel, by decide +kernel⟩, List.mem_of_getElem? (i := 126) (by decide +kernel), List.mem_of_getElem? (i := 819) (by decide +kernel), List.mem_of_getElem? (i := 820) (by decide +kernel)⟩
theorem lw_p29 : lw_okq (⟨"StairWays$Ways", "findLastKinds", "(LStairWays$Stair;)V"⟩, 11) := ⟨⟨by decide +kernel, by decide +kernel⟩, List.mem_of_getElem? (i := 126) (by decide +kernel), List.mem_of_getElem? (i := 831) (by decide +kernel), List.mem_of_getElem? (i := 832) (by decide +kernel)⟩
theorem lw_p30 : lw_okq (⟨"StairWays$Ways", "from", "(LStairWays$Stair;LStairWays$Climber;I)J"⟩, 11) := ⟨⟨by decide +kernel, by decide +kernel⟩, List.mem_of_getElem? (i := 126) (by decide +kernel), List.mem_of_getElem? (i := 847) (by decide +kernel), List.mem_of_getElem? (i := 848) (by decide +kernel)⟩
theorem lw_p31 : lw_okq (⟨"StairWays$Ways", "isEnd", "(LStairWays$Stair;LStairWays$Climber;)Z"⟩, 11) := ⟨⟨by decide +kernel, by decide +kernel⟩, List.mem_of_getElem? (i := 126) (by decide +kernel), List.mem_of_getElem? (i := 851) (by decide +kernel), List.mem_of_getElem? (i := 852) (by decide +kernel)⟩
def lw_privs_2 : List (MethodName × Nat) := [(⟨"StairWays$StairReader", "readBar", "(LStairWays$Stair;)Z"⟩, 4), (⟨"StairWays$StairReader", "readFoot", "(LStairWays$Stair;)Z"⟩, 4), (⟨"StairWays$StairReader", "readCount", "(LStairWays$Stair;)Z"⟩, 4), (⟨"StairWays$StairReader", "readGreat", "(LStairWays$Stair;)Z"⟩, 4), (⟨"StairWays$StairReader", "readEither", "(LStairWays$Mood;I)Z"⟩, 4), (⟨"StairWays$StairReader", "readTest", "(LStairWays$Mood;I)Z"⟩, 4), (⟨"StairWays$StairReader", "readSum", "(LStairWays$Mood;I)Z"⟩, 4), (⟨"StairWays$StairReader", "readProduct", "(LStairWays$Mood;I)Z"⟩, 4), (⟨"StairWays$StairReader", "readPart", "(LStairWays$Mood;I)Z"⟩, 4), (⟨"StairWays$StairReader", "namedFact", "()I"⟩, 4), (⟨"StairWays", "beginAnew", "()V"⟩, 14), (⟨"StairWays", "manyFrom", "(LStairWays$Climber;)J"⟩, 14), (⟨"StairWays$Ways", "begin", "(LStairWays$Stair;III)V"⟩, 11), (⟨"StairWays$Ways", "findLastKinds", "(LStairWays$Stair;)V"⟩, 11), (⟨"StairWays$Ways", "from", "(LStairWays$Stair;LStairWays$Climber;I)J"⟩, 11), (⟨"StairWays$Ways", "isEnd", "(LStairWays$Stair;LStairWays$Climber;)Z"⟩, 11)]
theorem lw_r2 : ∀ q ∈ lw_privs_2, lw_okq q := List.forall_mem_cons.mpr ⟨lw_p16, List.forall_mem_cons.mpr ⟨lw_p17, List.forall_mem_cons.mpr ⟨lw_p18, List.forall_mem_cons.mpr ⟨lw_p19, List.forall_mem_cons.mpr ⟨lw_p20, List.forall_mem_cons.mpr ⟨lw_p21, List.forall_mem_cons.mpr ⟨lw_p22, List.forall_mem_cons.mpr ⟨lw_p23, List.forall_mem_cons.mpr ⟨lw_p24, List.forall_mem_cons.mpr ⟨lw_p25, List.forall_mem_cons.mpr ⟨lw_p26, List.forall_mem_cons.mpr ⟨lw_p27, List.forall_mem_cons.mpr ⟨lw_p28, List.forall_mem_cons.mpr ⟨lw_p29, List.forall_mem_cons.mpr ⟨lw_p30, List.forall_mem_cons.mpr ⟨lw_p31, fun _ h => absurd h List.not_mem_nil⟩⟩⟩⟩⟩⟩⟩⟩⟩⟩⟩⟩⟩⟩⟩⟩
theorem lw_p32 : lw_okq (⟨"StairWays$Ways", "placeOf", "(LStairWays$Climber;)I"⟩, 11) := ⟨⟨by decide +kernel, by decide +kernel⟩, List.mem_of_getElem? (i := 126) (by decide +kernel), List.mem_of_getElem? (i := 856) (by decide +kernel), List.mem_of_getElem? (i := 857) (by decide +kernel)⟩
theorem lw_p33 : lw_okq (⟨"StairWays$Ways", "behind", "(LStairWays$Stair;LStairWays$Climber;II)J"⟩, 11) := ⟨⟨by decide +kernel, by decide +kernel⟩, List.mem_of_getElem? (i := 126) (by decide +kernel), List.mem_of_getElem? (i := 860) (by decide +kernel), List.mem_of_getElem? (i := 861) (by decide +kernel)⟩
theorem lw_p34 : lw_okq (⟨"StairWays$Ways", "isOpen", "(LStairWays$Stair;LStairWays$Climber;I)Z"⟩, 11) := ⟨⟨by decide +kernel, by decide +kernel⟩, List.mem_of_getElem? (i := 126) (by decide +kernel), List.mem_of_getElem? (i := 864) (by decide +kernel), List.mem_of_getElem? (i := 865) (by decide +kernel)⟩
theorem lw_p35 : lw_okq (⟨"StairWays$Ways", "agreesWithDust", "(II)Z"⟩, 11) := ⟨⟨by decide +kernel, by decide +kernel⟩, List.mem_of_getElem? (i := 126) (by decide +kernel), List.mem_of_getElem? (i := 869) (by decide +kernel), List.mem_of_getElem? (i := 870) (by decide +kernel)⟩
theorem lw_p36 : lw_okq (⟨"StairWays", "strideOf", "(JI)I"⟩, 14) := ⟨⟨by decide +kernel, by decide +kernel⟩, List.mem_of_getElem? (i := 26) (by decide +kernel), List.mem_of_getElem? (i := 898) (by decide +kernel), List.mem_of_getElem? (i := 899) (by decide +kernel)⟩
theorem lw_p37 : lw_okq (⟨"StairWays$Throng", "begin", "(LStairWays$Stair;)V"⟩, 11) := ⟨⟨by decide +kernel, by decide +kernel⟩, List.mem_of_getElem? (i := 167) (by decide +kernel), List.mem_of_getElem? (i := 918) (by decide +kernel), List.mem_of_getElem? (i := 919) (by decide +kernel)⟩
theorem lw_p38 : lw_okq (⟨"StairWays$Throng", "passStep", "(LStairWays$Stair;II)V"⟩, 11) := ⟨⟨by decide +kernel, by decide +kernel⟩, List.mem_of_getElem? (i := 167) (by decide +kernel), List.mem_of_getElem? (i := 930) (by decide +kernel), List.mem_of_getElem? (i := 931) (by decide +kernel)⟩
theorem lw_p39 : lw_okq (⟨"StairWays$Throng", "placeOf", "(LStairWays$Stair;LStairWays$Climber;)I"⟩, 11) := ⟨⟨by decide +kernel, by decide +kernel⟩, List.mem_of_getElem? (i := 167) (by decide +kernel), List.mem_of_getElem? (i := 935) (by decide +kernel), List.mem_of_getElem? (i := 936) (by decide +kernel)⟩
theorem lw_p40 : lw_okq (⟨"StairWays$Throng", "part", "(LStairWays$Stair;J)V"⟩, 11) := ⟨⟨by decide +kernel, by decide +kernel⟩, List.mem_of_getElem? (i := 167) (by decide +kernel), List.mem_of_getElem? (i := 959) (by decide +kernel), List.mem_of_getElem? (i := 960) (by decide +kernel)⟩
theorem lw_p41 : lw_okq (⟨"StairWays$Throng", "send", "(LStairWays$Stair;IJ)V"⟩, 11) := ⟨⟨by decide +kernel, by decide +kernel⟩, List.mem_of_getElem? (i := 167) (by decide +kernel), List.mem_of_getElem? (i := 968) (by decide +kernel), List.mem_of_getElem? (i := 969) (by decide +kernel)⟩
theorem lw_p42 : lw_okq (⟨"StairWays$Pair", "beat", "(LStairWays$Stair;II)V"⟩, 1) := ⟨⟨by decide +kernel, by decide +kernel⟩, List.mem_of_getElem? (i := 227) (by decide +kernel), List.mem_of_getElem? (i := 991) (by decide +kernel), List.mem_of_getElem? (i := 992) (by decide +kernel)⟩
theorem lw_p43 : lw_okq (⟨"StairWays$Ways", "winning", "(LStairWays$Stair;LStairWays$Climber;I)I"⟩, 11) := ⟨⟨by decide +kernel, by decide +kernel⟩, List.mem_of_getElem? (i := 126) (by decide +kernel), List.mem_of_getElem? (i := 1006) (by decide +kernel), List.mem_of_getElem? (i := 1007) (by decide +kernel)⟩
theorem lw_p44 : lw_okq (⟨"StairWays$Sweep", "findReached", "(LStairWays$Stair;[I)V"⟩, 3) := ⟨⟨by decide +kernel, by decide +kernel⟩, List.mem_of_getElem? (i := 211) (by decide +kernel), List.mem_of_getElem? (i := 1035) (by decide +kernel), List.mem_of_getElem? (i := 1036) (by decide +kernel)⟩
theorem lw_p45 : lw_okq (⟨"StairWays$Sweep", "leads", "(II)Z"⟩, 3) := ⟨⟨by decide +kernel, by decide +kernel⟩, List.mem_of_getElem? (i := 211) (by decide +kernel), List.mem_of_getElem? (i := 1039) (by decide +kernel), List.mem_of_getElem? (i := 1040) (by decide +kernel)⟩
theorem lw_p46 : lw_okq (⟨"StairWays$Sweep", "joins", "(LStairWays$Stair;[III)Z"⟩, 3) := ⟨⟨by decide +kernel, by decide +kernel⟩, List.mem_of_getElem? (i := 211) (by decide +kernel), List.mem_of_getElem? (i := 1043) (by decide +kernel), List.mem_of_getElem? (i := 1044) (by decide +kernel)⟩
theorem lw_p47 : lw_okq (⟨"StairWays", "drawBelow", "(I)I"⟩, 14) := ⟨⟨by decide +kernel, by decide +kernel⟩, List.mem_of_getElem? (i := 26) (by decide +kernel), List.mem_of_getElem? (i := 1065) (by decide +kernel), List.mem_of_getElem? (i := 1066) (by decide +kernel)⟩
def lw_privs_3 : List (MethodName × Nat) := [(⟨"StairWays$Ways", "placeOf", "(LStairWays$Climber;)I"⟩, 11), (⟨"StairWays$Ways", "behind", "(LStairWays$Stair;LStairWays$Climber;II)J"⟩, 11), (⟨"StairWays$Ways", "isOpen", "(LStairWays$Stair;LStairWays$Climber;I)Z"⟩, 11), (⟨"StairWays$Ways", "agreesWithDust", "(II)Z"⟩, 11), (⟨"StairWays", "strideOf", "(JI)I"⟩, 14), (⟨"StairWays$Throng", "begin", "(LStairWays$Stair;)V"⟩, 11), (⟨"StairWays$Throng", "passStep", "(LStairWays$Stair;II)V"⟩, 11), (⟨"StairWays$Throng", "placeOf", "(LStairWays$Stair;LStairWays$Climber;)I"⟩, 11), (⟨"StairWays$Throng", "part", "(LStairWays$Stair;J)V"⟩, 11), (⟨"StairWays$Throng", "send", "(LStairWays$Stair;IJ)V"⟩, 11), (⟨"StairWays$Pair", "beat", "(LStairWays$Stair;II)V"⟩, 1), (⟨"StairWays$Ways", "winning", "(LStairWays$Stair;LStairWays$Climber;I)I"⟩, 11), (⟨"StairWays$Sweep", "findReached", "(LStairWays$Stair;[I)V"⟩, 3), (⟨"StairWays$Sweep", "leads", "(II)Z"⟩, 3), (⟨"StairWays$Sweep", "joins", "(LStairWays$Stair;[III)Z"⟩, 3), (⟨"StairWays", "drawBelow", "(I)I"⟩, 14)]
theorem lw_r3 : ∀ q ∈ lw_privs_3, lw_okq q := List.forall_mem_cons.mpr ⟨lw_p32, List.forall_mem_cons.mpr ⟨lw_p33, List.forall_mem_cons.mpr ⟨lw_p34, List.forall_mem_cons.mpr ⟨lw_p35, List.forall_mem_cons.mpr ⟨lw_p36, List.forall_mem_cons.mpr ⟨lw_p37, List.forall_mem_cons.mpr ⟨lw_p38, List.forall_mem_cons.mpr ⟨lw_p39, List.forall_mem_cons.mpr ⟨lw_p40, List.forall_mem_cons.mpr ⟨lw_p41, List.forall_mem_cons.mpr ⟨lw_p42, List.forall_mem_cons.mpr ⟨lw_p43, List.forall_mem_cons.mpr ⟨lw_p44, List.forall_mem_cons.mpr ⟨lw_p45, List.forall_mem_cons.mpr ⟨lw_p46, List.forall_mem_cons.mpr ⟨lw_p47, fun _ h => absurd h List.not_mem_nil⟩⟩⟩⟩⟩⟩⟩⟩⟩⟩⟩⟩⟩⟩⟩⟩
theorem lw_p48 : lw_okq (⟨"StairWays", "strideWeighing", "(I)I"⟩, 14) := ⟨⟨by decide +kernel, by decide +kernel⟩, List.mem_of_getElem? (i := 26) (by decide +kernel), List.mem_of_getElem? (i := 1080) (by decide +kernel), List.mem_of_getElem? (i := 1081) (by decide +kernel)⟩
theorem lw_p49 : lw_okq (⟨"java/lang/Throwable", "fillInStackTrace", "(I)Ljava/lang/Throwable;"⟩, 6) := ⟨⟨by decide +kernel, by decide +kernel⟩, List.mem_of_getElem? (i := 1138) (by decide +kernel), List.mem_of_getElem? (i := 1136) (by decide +kernel), List.mem_of_getElem? (i := 1137) (by decide +kernel)⟩
theorem lw_p50 : lw_okq (⟨"StairWays$Rests", "findFirst", "(LStairWays$Stair;I)V"⟩, 3) := ⟨⟨by decide +kernel, by decide +kernel⟩, List.mem_of_getElem? (i := 237) (by decide +kernel), List.mem_of_getElem? (i := 1167) (by decide +kernel), List.mem_of_getElem? (i := 1168) (by decide +kernel)⟩
theorem lw_p51 : lw_okq (⟨"StairWays$Rests", "square", "(LStairWays$Stair;II)V"⟩, 3) := ⟨⟨by decide +kernel, by decide +kernel⟩, List.mem_of_getElem? (i := 237) (by decide +kernel), List.mem_of_getElem? (i := 1171) (by decide +kernel), List.mem_of_getElem? (i := 1172) (by decide +kernel)⟩
theorem lw_p52 : lw_okq (⟨"StairWaysModel", "lay", "(J)V"⟩, 37) := ⟨⟨by decide +kernel, by decide +kernel⟩, List.mem_of_getElem? (i := 1186) (by decide +kernel), List.mem_of_getElem? (i := 1184) (by decide +kernel), List.mem_of_getElem? (i := 1185) (by decide +kernel)⟩
theorem lw_p53 : lw_okq (⟨"StairWaysModel", "standsAsAlways", "(I)V"⟩, 37) := ⟨⟨by decide +kernel, by decide +kernel⟩, List.mem_of_getElem? (i := 1186) (by decide +kernel), List.mem_of_getElem? (i := 1217) (by decide +kernel), List.mem_of_getElem? (i := 1218) (by decide +kernel)⟩
theorem lw_p54 : lw_okq (⟨"StairWaysModel", "cutAll", "()V"⟩, 37) := ⟨⟨by decide +kernel, by decide +kernel⟩, List.mem_of_getElem? (i := 1186) (by decide +kernel), List.mem_of_getElem? (i := 1338) (by decide +kernel), List.mem_of_getElem? (i := 1339) (by decide +kernel)⟩
theorem lw_p55 : lw_okq (⟨"StairWaysModel", "takeWord", "(I)V"⟩, 37) := ⟨⟨by decide +kernel, by decide +kernel⟩, List.mem_of_getElem? (i := 1186) (by decide +kernel), List.mem_of_getElem? (i := 1357) (by decide +kernel), List.mem_of_getElem? (i := 1358) (by decide +kernel)⟩
theorem lw_p56 : lw_okq (⟨"StairWaysModel", "hasWord", "(I)Z"⟩, 37) := ⟨⟨by decide +kernel, by decide +kernel⟩, List.mem_of_getElem? (i := 1186) (by decide +kernel), List.mem_of_getElem? (i := 1361) (by decide +kernel), List.mem_of_getElem? (i := 1362) (by decide +kernel)⟩
theorem lw_p57 : lw_okq (⟨"StairWaysModel", "isWord", "(I)Z"⟩, 37) := ⟨⟨by decide +kernel, by decide +kernel⟩, List.mem_of_getElem? (i := 1186) (by decide +kernel), List.mem_of_getElem? (i := 1365) (by decide +kernel), List.mem_of_getElem? (i := 1366) (by decide +kernel)⟩
theorem lw_p58 : lw_okq (⟨"StairWaysModel", "wrong", "(I)V"⟩, 37) := ⟨⟨by decide +kernel, by decide +kernel⟩, List.mem_of_getElem? (i := 1186) (by decide +kernel), List.mem_of_getElem? (i := 1369) (by decide +kernel), List.mem_of_getElem? (i := 1370) (by decide +kernel)⟩
theorem lw_p59 : lw_okq (⟨"StairWaysModel", "takeNumber", "(II)I"⟩, 37) := ⟨⟨by decide +kernel, by decide +kernel⟩, List.mem_of_getElem? (i := 1186) (by decide +kernel), List.mem_of_getElem? (i := 1373) (by decide +kernel), List.mem_of_getElem? (i := 1374) (by decide +kernel)⟩
theorem lw_p60 : lw_okq (⟨"StairWaysModel", "takeSign", "(I)V"⟩, 37) := ⟨⟨by decide +kernel, by decide +kernel⟩, List.mem_of_getElem? (i := 1186) (by decide +kernel), List.mem_of_getElem? (i := 1377) (by decide +kernel), List.mem_of_getElem? (i := 1378) (by decide +kernel)⟩
theorem lw_p61 : lw_okq (⟨"StairWaysModel", "isSign", "(I)Z"⟩, 37) := ⟨⟨by decide +kernel, by decide +kernel⟩, List.mem_of_getElem? (i := 1186) (by decide +kernel), List.mem_of_getElem? (i := 1381) (by decide +kernel), List.mem_of_getElem? (i := 1382) (by decide +kernel)⟩
theorem lw_p62 : lw_okq (⟨"StairWaysModel", "readLine", "()V"⟩, 37) := ⟨⟨by decide +kernel, by decide +kernel⟩, List.mem_of_getElem? (i := 1186) (by decide +kernel), List.mem_of_getElem? (i := 1385) (by decide +kernel), List.mem_of_getElem? (i := 1386) (by decide +kernel)⟩
theorem lw_p63 : lw_okq (⟨"StairWaysModel", "readStep", "()V"⟩, 37) := ⟨⟨by decide +kernel, by decide +kernel⟩, List.mem_of_getElem? (i := 1186) (by decide +kernel), List.mem_of_getElem? (i := 1389) (by decide +kernel), List.mem_of_getElem? (i := 1390) (by decide +kernel)⟩
def lw_privs_4 : List (MethodName × Nat) := [(⟨"StairWays", "strideWeighing", "(I)I"⟩, 14), (⟨"java/lang/Throwable", "fillInStackTrace", "(I)Ljava/lang/Throwable;"⟩, 6), (⟨"StairWays$Rests", "findFirst", "(LStairWays$Stair;I)V"⟩, 3), (⟨"StairWays$Rests", "square", "(LStairWays$Stair;II)V"⟩, 3), (⟨"StairWaysModel", "lay", "(J)V"⟩, 37), (⟨"StairWaysModel", "standsAsAlways", "(I)V"⟩, 37), (⟨"StairWaysModel", "cutAll", "()V"⟩, 37), (⟨"StairWaysModel", "takeWord", "(I)V"⟩, 37), (⟨"StairWaysModel", "hasWord", "(I)Z"⟩, 37), (⟨"StairWaysModel", "isWord", "(I)Z"⟩, 37), (⟨"StairWaysModel", "wrong", "(I)V"⟩, 37), (⟨"StairWaysModel", "takeNumber", "(II)I"⟩, 37), (⟨"StairWaysModel", "takeSign", "(I)V"⟩, 37), (⟨"StairWaysModel", "isSign", "(I)Z"⟩, 37), (⟨"StairWaysModel", "readLine", "()V"⟩, 37), (⟨"StairWaysModel", "readStep", "()V"⟩, 37)]
theorem lw_r4 : ∀ q ∈ lw_privs_4, lw_okq q := List.forall_mem_cons.mpr ⟨lw_p48, List.forall_mem_cons.mpr ⟨lw_p49, List.forall_mem_cons.mpr ⟨lw_p50, List.forall_mem_cons.mpr ⟨lw_p51, List.forall_mem_cons.mpr ⟨lw_p52, List.forall_mem_cons.mpr ⟨lw_p53, List.forall_mem_cons.mpr ⟨lw_p54, List.forall_mem_cons.mpr ⟨lw_p55, List.forall_mem_cons.mpr ⟨lw_p56, List.forall_mem_cons.mpr ⟨lw_p57, List.forall_mem_cons.mpr ⟨lw_p58, List.forall_mem_cons.mpr ⟨lw_p59, List.forall_mem_cons.mpr ⟨lw_p60, List.forall_mem_cons.mpr ⟨lw_p61, List.forall_mem_cons.mpr ⟨lw_p62, List.forall_mem_cons.mpr ⟨lw_p63, fun _ h => absurd h List.not_mem_nil⟩⟩⟩⟩⟩⟩⟩⟩⟩⟩⟩⟩⟩⟩⟩⟩
theorem lw_p64 : lw_okq (⟨"StairWaysModel", "readBar", "()V"⟩, 37) := ⟨⟨by decide +kernel, by decide +kernel⟩, List.mem_of_getElem? (i := 1186) (by decide +kernel), List.mem_of_getElem? (i := 1393) (by decide +kernel), List.mem_of_getElem? (i := 1394) (by decide +kernel)⟩
theorem lw_p65 : lw_okq (⟨"StairWaysModel", "isBarred", "(III)Z"⟩, 37) := ⟨⟨by decide +kernel, by decide +kernel⟩, List.mem_of_getElem? (i := 1186) (by decide +kernel), List.mem_of_getElem? (i := 1397) (by decide +kernel), List.mem_of_getElem? (i := 1398) (by decide +kernel)⟩
theorem lw_p66 : lw_okq (⟨"StairWaysModel", "readStrides", "()V"⟩, 37) := ⟨⟨by decide +kernel, by decide +kernel⟩, List.mem_of_getElem? (i := 1186) (by decide +kernel), List.mem_of_getElem? (i := 1401) (by decide +kernel), List.mem_of_getElem? (i := 1402) (by decide +kernel)⟩
theorem lw_p67 : lw_okq (⟨"StairWaysModel", "isOnce", "(I)Z"⟩, 37) := ⟨⟨by decide +kernel, by decide +kernel⟩, List.mem_of_getElem? (i := 1186) (by decide +kernel), List.mem_of_getElem? (i := 1405) (by decide +kernel), List.mem_of_getElem? (i := 1406) (by decide +kernel)⟩
theorem lw_p68 : lw_okq (⟨"StairWaysModel", "readStride", "()V"⟩, 37) := ⟨⟨by decide +kernel, by decide +kernel⟩, List.mem_of_getElem? (i := 1186) (by decide +kernel), List.mem_of_getElem? (i := 1409) (by decide +kernel), List.mem_of_getElem? (i := 1410) (by decide +kernel)⟩
theorem lw_p69 : lw_okq (⟨"StairWaysModel", "readFoot", "()V"⟩, 37) := ⟨⟨by decide +kernel, by decide +kernel⟩, List.mem_of_getElem? (i := 1186) (by decide +kernel), List.mem_of_getElem? (i := 1413) (by decide +kernel), List.mem_of_getElem? (i := 1414) (by decide +kernel)⟩
theorem lw_p70 : lw_okq (⟨"StairWaysModel", "takeAfter", "(III)I"⟩, 37) := ⟨⟨by decide +kernel, by decide +kernel⟩, List.mem_of_getElem? (i := 1186) (by decide +kernel), List.mem_of_getElem? (i := 1417) (by decide +kernel), List.mem_of_getElem? (i := 1418) (by decide +kernel)⟩
theorem lw_p71 : lw_okq (⟨"StairWaysModel", "all", "(I)V"⟩, 37) := ⟨⟨by decide +kernel, by decide +kernel⟩, List.mem_of_getElem? (i := 1186) (by decide +kernel), List.mem_of_getElem? (i := 1421) (by decide +kernel), List.mem_of_getElem? (i := 1422) (by decide +kernel)⟩
theorem lw_p72 : lw_okq (⟨"StairWaysModel", "test", "(I)V"⟩, 37) := ⟨⟨by decide +kernel, by decide +kernel⟩, List.mem_of_getElem? (i := 1186) (by decide +kernel), List.mem_of_getElem? (i := 1425) (by decide +kernel), List.mem_of_getElem? (i := 1426) (by decide +kernel)⟩
theorem lw_p73 : lw_okq (⟨"StairWaysModel", "sums", "(I)V"⟩, 37) := ⟨⟨by decide +kernel, by decide +kernel⟩, List.mem_of_getElem? (i := 1186) (by decide +kernel), List.mem_of_getElem? (i := 1429) (by decide +kernel), List.mem_of_getElem? (i := 1430) (by decide +kernel)⟩
theorem lw_p74 : lw_okq (⟨"StairWaysModel", "products", "(I)V"⟩, 37) := ⟨⟨by decide +kernel, by decide +kernel⟩, List.mem_of_getElem? (i := 1186) (by decide +kernel), List.mem_of_getElem? (i := 1433) (by decide +kernel), List.mem_of_getElem? (i := 1434) (by decide +kernel)⟩
theorem lw_p75 : lw_okq (⟨"StairWaysModel", "takePart", "(I)V"⟩, 37) := ⟨⟨by decide +kernel, by decide +kernel⟩, List.mem_of_getElem? (i := 1186) (by decide +kernel), List.mem_of_getElem? (i := 1437) (by decide +kernel), List.mem_of_getElem? (i := 1438) (by decide +kernel)⟩
theorem lw_p76 : lw_okq (⟨"StairWaysModel", "emit", "(II)V"⟩, 37) := ⟨⟨by decide +kernel, by decide +kernel⟩, List.mem_of_getElem? (i := 1186) (by decide +kernel), List.mem_of_getElem? (i := 1441) (by decide +kernel), List.mem_of_getElem? (i := 1442) (by decide +kernel)⟩
theorem lw_p77 : lw_okq (⟨"StairWaysModel", "hasSign", "(I)Z"⟩, 37) := ⟨⟨by decide +kernel, by decide +kernel⟩, List.mem_of_getElem? (i := 1186) (by decide +kernel), List.mem_of_getElem? (i := 1445) (by decide +kernel), List.mem_of_getElem? (i := 1446) (by decide +kernel)⟩
theorem lw_p78 : lw_okq (⟨"StairWaysModel", "sorts", "()V"⟩, 37) := ⟨⟨by decide +kernel, by decide +kernel⟩, List.mem_of_getElem? (i := 1186) (by decide +kernel), List.mem_of_getElem? (i := 1449) (by decide +kernel), List.mem_of_getElem? (i := 1450) (by decide +kernel)⟩
theorem lw_p79 : lw_okq (⟨"StairWaysModel", "strides", "()I"⟩, 37) := ⟨⟨by decide +kernel, by decide +kernel⟩, List.mem_of_getElem? (i := 1186) (by decide +kernel), List.mem_of_getElem? (i := 1453) (by decide +kernel), List.mem_of_getElem? (i := 1454) (by decide +kernel)⟩
def lw_privs_5 : List (MethodName × Nat) := [(⟨"StairWaysModel", "readBar", "()V"⟩, 37), (⟨"StairWaysModel", "isBarred", "(III)Z"⟩, 37), (⟨"StairWaysModel", "readStrides", "()V"⟩, 37), (⟨"StairWaysModel", "isOnce", "(I)Z"⟩, 37), (⟨"StairWaysModel", "readStride", "()V"⟩, 37), (⟨"StairWaysModel", "readFoot", "()V"⟩, 37), (⟨"StairWaysModel", "takeAfter", "(III)I"⟩, 37), (⟨"StairWaysModel", "all", "(I)V"⟩, 37), (⟨"StairWaysModel", "test", "(I)V"⟩, 37), (⟨"StairWaysModel", "sums", "(I)V"⟩, 37), (⟨"StairWaysModel", "products", "(I)V"⟩, 37), (⟨"StairWaysModel", "takePart", "(I)V"⟩, 37), (⟨"StairWaysModel", "emit", "(II)V"⟩, 37), (⟨"StairWaysModel", "hasSign", "(I)Z"⟩, 37), (⟨"StairWaysModel", "sorts", "()V"⟩, 37), (⟨"StairWaysModel", "strides", "()I"⟩, 37)]
theorem lw_r5 : ∀ q ∈ lw_privs_5, lw_okq q := List.forall_mem_cons.mpr ⟨lw_p64, List.forall_mem_cons.mpr ⟨lw_p65, List.forall_mem_cons.mpr ⟨lw_p66, List.forall_mem_cons.mpr ⟨lw_p67, List.forall_mem_cons.mpr ⟨lw_p68, List.forall_mem_cons.mpr ⟨lw_p69, List.forall_mem_cons.mpr ⟨lw_p70, List.forall_mem_cons.mpr ⟨lw_p71, List.forall_mem_cons.mpr ⟨lw_p72, List.forall_mem_cons.mpr ⟨lw_p73, List.forall_mem_cons.mpr ⟨lw_p74, List.forall_mem_cons.mpr ⟨lw_p75, List.forall_mem_cons.mpr ⟨lw_p76, List.forall_mem_cons.mpr ⟨lw_p77, List.forall_mem_cons.mpr ⟨lw_p78, List.forall_mem_cons.mpr ⟨lw_p79, fun _ h => absurd h List.not_mem_nil⟩⟩⟩⟩⟩⟩⟩⟩⟩⟩⟩⟩⟩⟩⟩⟩
theorem lw_p80 : lw_okq (⟨"StairWaysModel", "steps", "()I"⟩, 37) := ⟨⟨by decide +kernel, by decide +kernel⟩, List.mem_of_getElem? (i := 1186) (by decide +kernel), List.mem_of_getElem? (i := 1461) (by decide +kernel), List.mem_of_getElem? (i := 1462) (by decide +kernel)⟩
theorem lw_p81 : lw_okq (⟨"StairWaysModel", "findHeaps", "()V"⟩, 37) := ⟨⟨by decide +kernel, by decide +kernel⟩, List.mem_of_getElem? (i := 1186) (by decide +kernel), List.mem_of_getElem? (i := 1468) (by decide +kernel), List.mem_of_getElem? (i := 1469) (by decide +kernel)⟩
theorem lw_p82 : lw_okq (⟨"StairWaysModel", "strideOf", "(I)I"⟩, 37) := ⟨⟨by decide +kernel, by decide +kernel⟩, List.mem_of_getElem? (i := 1186) (by decide +kernel), List.mem_of_getElem? (i := 1472) (by decide +kernel), List.mem_of_getElem? (i := 1473) (by decide +kernel)⟩
theorem lw_p83 : lw_okq (⟨"StairWaysModel", "kindOf", "(I)I"⟩, 37) := ⟨⟨by decide +kernel, by decide +kernel⟩, List.mem_of_getElem? (i := 1186) (by decide +kernel), List.mem_of_getElem? (i := 1476) (by decide +kernel), List.mem_of_getElem? (i := 1477) (by decide +kernel)⟩
theorem lw_p84 : lw_okq (⟨"StairWaysModel", "findNow", "()V"⟩, 37) := ⟨⟨by decide +kernel, by decide +kernel⟩, List.mem_of_getElem? (i := 1186) (by decide +kernel), List.mem_of_getElem? (i := 1484) (by decide +kernel), List.mem_of_getElem? (i := 1485) (by decide +kernel)⟩
theorem lw_p85 : lw_okq (⟨"StairWaysModel", "takenMany", "()I"⟩, 37) := ⟨⟨by decide +kernel, by decide +kernel⟩, List.mem_of_getElem? (i := 1186) (by decide +kernel), List.mem_of_getElem? (i := 1488) (by decide +kernel), List.mem_of_getElem? (i := 1489) (by decide +kernel)⟩
theorem lw_p86 : lw_okq (⟨"StairWaysModel", "indexOf", "(I)I"⟩, 37) := ⟨⟨by decide +kernel, by decide +kernel⟩, List.mem_of_getElem? (i := 1186) (by decide +kernel), List.mem_of_getElem? (i := 1492) (by decide +kernel), List.mem_of_getElem? (i := 1493) (by decide +kernel)⟩
theorem lw_p87 : lw_okq (⟨"StairWaysModel", "isGreat", "(I)Z"⟩, 37) := ⟨⟨by decide +kernel, by decide +kernel⟩, List.mem_of_getElem? (i := 1186) (by decide +kernel), List.mem_of_getElem? (i := 1496) (by decide +kernel), List.mem_of_getElem? (i := 1497) (by decide +kernel)⟩
theorem lw_p88 : lw_okq (⟨"StairWaysModel", "mayNow", "(I)Z"⟩, 37) := ⟨⟨by decide +kernel, by decide +kernel⟩, List.mem_of_getElem? (i := 1186) (by decide +kernel), List.mem_of_getElem? (i := 1500) (by decide +kernel), List.mem_of_getElem? (i := 1501) (by decide +kernel)⟩
theorem lw_p89 : lw_okq (⟨"StairWaysModel", "creakOf", "(I)I"⟩, 37) := ⟨⟨by decide +kernel, by decide +kernel⟩, List.mem_of_getElem? (i := 1186) (by decide +kernel), List.mem_of_getElem? (i := 1504) (by decide +kernel), List.mem_of_getElem? (i := 1505) (by decide +kernel)⟩
theorem lw_p90 : lw_okq (⟨"StairWaysModel", "mayNext", "(IIIIII)Z"⟩, 37) := ⟨⟨by decide +kernel, by decide +kernel⟩, List.mem_of_getElem? (i := 1186) (by decide +kernel), List.mem_of_getElem? (i := 1508) (by decide +kernel), List.mem_of_getElem? (i := 1509) (by decide +kernel)⟩
theorem lw_p91 : lw_okq (⟨"StairWaysModel", "isShut", "(I)Z"⟩, 37) := ⟨⟨by decide +kernel, by decide +kernel⟩, List.mem_of_getElem? (i := 1186) (by decide +kernel), List.mem_of_getElem? (i := 1512) (by decide +kernel), List.mem_of_getElem? (i := 1513) (by decide +kernel)⟩
theorem lw_p92 : lw_okq (⟨"StairWaysModel", "passesMust", "(II)Z"⟩, 37) := ⟨⟨by decide +kernel, by decide +kernel⟩, List.mem_of_getElem? (i := 1186) (by decide +kernel), List.mem_of_getElem? (i := 1516) (by decide +kernel), List.mem_of_getElem? (i := 1517) (by decide +kernel)⟩
theorem lw_p93 : lw_okq (⟨"StairWaysModel", "isMust", "(I)Z"⟩, 37) := ⟨⟨by decide +kernel, by decide +kernel⟩, List.mem_of_getElem? (i := 1186) (by decide +kernel), List.mem_of_getElem? (i := 1520) (by decide +kernel), List.mem_of_getElem? (i := 1521) (by decide +kernel)⟩
theorem lw_p94 : lw_okq (⟨"StairWaysModel", "lawfulNow", "()I"⟩, 37) := ⟨⟨by decide +kernel, by decide +kernel⟩, List.mem_of_getElem? (i := 1186) (by decide +kernel), List.mem_of_getElem? (i := 1541) (by decide +kernel), List.mem_of_getElem? (i := 1542) (by decide +kernel)⟩
theorem lw_p95 : lw_okq (⟨"StairWaysModel", "lays", "(IZ)V"⟩, 37) := ⟨⟨by decide +kernel, by decide +kernel⟩, List.mem_of_getElem? (i := 1186) (by decide +kernel), List.mem_of_getElem? (i := 1549) (by decide +kernel), List.mem_of_getElem? (i := 1550) (by decide +kernel)⟩
def lw_privs_6 : List (MethodName × Nat) := [(⟨"StairWaysModel", "steps", "()I"⟩, 37), (⟨"StairWaysModel", "findHeaps", "()V"⟩, 37), (⟨"StairWaysModel", "strideOf", "(I)I"⟩, 37), (⟨"StairWaysModel", "kindOf", "(I)I"⟩, 37), (⟨"StairWaysModel", "findNow", "()V"⟩, 37), (⟨"StairWaysModel", "takenMany", "()I"⟩, 37), (⟨"StairWaysModel", "indexOf", "(I)I"⟩, 37), (⟨"StairWaysModel", "isGreat", "(I)Z"⟩, 37), (⟨"StairWaysModel", "mayNow", "(I)Z"⟩, 37), (⟨"StairWaysModel", "creakOf", "(I)I"⟩, 37), (⟨"StairWaysModel", "mayNext", "(IIIIII)Z"⟩, 37), (⟨"StairWaysModel", "isShut", "(I)Z"⟩, 37), (⟨"StairWaysModel", "passesMust", "(II)Z"⟩, 37), (⟨"StairWaysModel", "isMust", "(I)Z"⟩, 37), (⟨"StairWaysModel", "lawfulNow", "()I"⟩, 37), (⟨"StairWaysModel", "lays", "(IZ)V"⟩, 37)]
theorem lw_r6 : ∀ q ∈ lw_privs_6, lw_okq q := List.forall_mem_cons.mpr ⟨lw_p80, List.forall_mem_cons.mpr ⟨lw_p81, List.forall_mem_cons.mpr ⟨lw_p82, List.forall_mem_cons.mpr ⟨lw_p83, List.forall_mem_cons.mpr ⟨lw_p84, List.forall_mem_cons.mpr ⟨lw_p85, List.forall_mem_cons.mpr ⟨lw_p86, List.forall_mem_cons.mpr ⟨lw_p87, List.forall_mem_cons.mpr ⟨lw_p88, List.forall_mem_cons.mpr ⟨lw_p89, List.forall_mem_cons.mpr ⟨lw_p90, List.forall_mem_cons.mpr ⟨lw_p91, List.forall_mem_cons.mpr ⟨lw_p92, List.forall_mem_cons.mpr ⟨lw_p93, List.forall_mem_cons.mpr ⟨lw_p94, List.forall_mem_cons.mpr ⟨lw_p95, fun _ h => absurd h List.not_mem_nil⟩⟩⟩⟩⟩⟩⟩⟩⟩⟩⟩⟩⟩⟩⟩⟩
theorem lw_p96 : lw_okq (⟨"StairWaysModel", "mostCreaks", "()I"⟩, 37) := ⟨⟨by decide +kernel, by decide +kernel⟩, List.mem_of_getElem? (i := 1186) (by decide +kernel), List.mem_of_getElem? (i := 1553) (by decide +kernel), List.mem_of_getElem? (i := 1554) (by decide +kernel)⟩
theorem lw_p97 : lw_okq (⟨"StairWaysModel", "mostGreats", "()I"⟩, 37) := ⟨⟨by decide +kernel, by decide +kernel⟩, List.mem_of_getElem? (i := 1186) (by decide +kernel), List.mem_of_getElem? (i := 1557) (by decide +kernel), List.mem_of_getElem? (i := 1558) (by decide +kernel)⟩
theorem lw_p98 : lw_okq (⟨"StairWaysModel", "wins", "(IIIII)J"⟩, 37) := ⟨⟨by decide +kernel, by decide +kernel⟩, List.mem_of_getElem? (i := 1186) (by decide +kernel), List.mem_of_getElem? (i := 1564) (by decide +kernel), List.mem_of_getElem? (i := 1565) (by decide +kernel)⟩
theorem lw_p99 : lw_okq (⟨"StairWaysModel", "nextAt", "(IIIIII)I"⟩, 37) := ⟨⟨by decide +kernel, by decide +kernel⟩, List.mem_of_getElem? (i := 1186) (by decide +kernel), List.mem_of_getElem? (i := 1568) (by decide +kernel), List.mem_of_getElem? (i := 1569) (by decide +kernel)⟩
theorem lw_p100 : lw_okq (⟨"StairWaysModel", "ways", "(IIIIII)J"⟩, 37) := ⟨⟨by decide +kernel, by decide +kernel⟩, List.mem_of_getElem? (i := 1186) (by decide +kernel), List.mem_of_getElem? (i := 1572) (by decide +kernel), List.mem_of_getElem? (i := 1573) (by decide +kernel)⟩
theorem lw_p101 : lw_okq (⟨"StairWaysModel", "isLawfulAt", "(I)Z"⟩, 37) := ⟨⟨by decide +kernel, by decide +kernel⟩, List.mem_of_getElem? (i := 1186) (by decide +kernel), List.mem_of_getElem? (i := 1576) (by decide +kernel), List.mem_of_getElem? (i := 1577) (by decide +kernel)⟩
theorem lw_p102 : lw_okq (⟨"StairWaysModel", "nowAt", "()I"⟩, 37) := ⟨⟨by decide +kernel, by decide +kernel⟩, List.mem_of_getElem? (i := 1186) (by decide +kernel), List.mem_of_getElem? (i := 1580) (by decide +kernel), List.mem_of_getElem? (i := 1581) (by decide +kernel)⟩
theorem lw_p103 : lw_okq (⟨"StairWaysModel", "strideAt", "(JI)I"⟩, 37) := ⟨⟨by decide +kernel, by decide +kernel⟩, List.mem_of_getElem? (i := 1186) (by decide +kernel), List.mem_of_getElem? (i := 1597) (by decide +kernel), List.mem_of_getElem? (i := 1598) (by decide +kernel)⟩
theorem lw_p104 : lw_okq (⟨"StairWaysModel", "multiplies", "([J[JI)V"⟩, 37) := ⟨⟨by decide +kernel, by decide +kernel⟩, List.mem_of_getElem? (i := 1186) (by decide +kernel), List.mem_of_getElem? (i := 1606) (by decide +kernel), List.mem_of_getElem? (i := 1607) (by decide +kernel)⟩
theorem lw_p105 : lw_okq (⟨"StairWaysModel", "squares", "(I)V"⟩, 37) := ⟨⟨by decide +kernel, by decide +kernel⟩, List.mem_of_getElem? (i := 1186) (by decide +kernel), List.mem_of_getElem? (i := 1610) (by decide +kernel), List.mem_of_getElem? (i := 1611) (by decide +kernel)⟩
theorem lw_p106 : lw_okq (⟨"StairWaysModel", "goesCrowd", "(J)V"⟩, 37) := ⟨⟨by decide +kernel, by decide +kernel⟩, List.mem_of_getElem? (i := 1186) (by decide +kernel), List.mem_of_getElem? (i := 1622) (by decide +kernel), List.mem_of_getElem? (i := 1623) (by decide +kernel)⟩
theorem lw_p107 : lw_okq (⟨"StairWaysModel", "parts", "(IIIII)V"⟩, 37) := ⟨⟨by decide +kernel, by decide +kernel⟩, List.mem_of_getElem? (i := 1186) (by decide +kernel), List.mem_of_getElem? (i := 1626) (by decide +kernel), List.mem_of_getElem? (i := 1627) (by decide +kernel)⟩
theorem lw_p108 : lw_okq (⟨"StairWaysModel", "weightAt", "(IIIIII)I"⟩, 37) := ⟨⟨by decide +kernel, by decide +kernel⟩, List.mem_of_getElem? (i := 1186) (by decide +kernel), List.mem_of_getElem? (i := 1630) (by decide +kernel), List.mem_of_getElem? (i := 1631) (by decide +kernel)⟩
theorem lw_p109 : lw_okq (⟨"StairWaysModel", "worthAt", "(I)I"⟩, 37) := ⟨⟨by decide +kernel, by decide +kernel⟩, List.mem_of_getElem? (i := 1186) (by decide +kernel), List.mem_of_getElem? (i := 1634) (by decide +kernel), List.mem_of_getElem? (i := 1635) (by decide +kernel)⟩
theorem lw_p110 : lw_okq (⟨"StairWaysModel", "moves", "(IIIIIIJ)V"⟩, 37) := ⟨⟨by decide +kernel, by decide +kernel⟩, List.mem_of_getElem? (i := 1186) (by decide +kernel), List.mem_of_getElem? (i := 1641) (by decide +kernel), List.mem_of_getElem? (i := 1642) (by decide +kernel)⟩
theorem lw_p111 : lw_okq (⟨"StairWaysModel", "comes", "(III)I"⟩, 37) := ⟨⟨by decide +kernel, by decide +kernel⟩, List.mem_of_getElem? (i := 1186) (by decide +kernel), List.mem_of_getElem? (i := 1657) (by decide +kernel), List.mem_of_getElem? (i := 1658) (by decide +kernel)⟩
def lw_privs_7 : List (MethodName × Nat) := [(⟨"StairWaysModel", "mostCreaks", "()I"⟩, 37), (⟨"StairWaysModel", "mostGreats", "()I"⟩, 37), (⟨"StairWaysModel", "wins", "(IIIII)J"⟩, 37), (⟨"StairWaysModel", "nextAt", "(IIIIII)I"⟩, 37), (⟨"StairWaysModel", "ways", "(IIIIII)J"⟩, 37), (⟨"StairWaysModel", "isLawfulAt", "(I)Z"⟩, 37), (⟨"StairWaysModel", "nowAt", "()I"⟩, 37), (⟨"StairWaysModel", "strideAt", "(JI)I"⟩, 37), (⟨"StairWaysModel", "multiplies", "([J[JI)V"⟩, 37), (⟨"StairWaysModel", "squares", "(I)V"⟩, 37), (⟨"StairWaysModel", "goesCrowd", "(J)V"⟩, 37), (⟨"StairWaysModel", "parts", "(IIIII)V"⟩, 37), (⟨"StairWaysModel", "weightAt", "(IIIIII)I"⟩, 37), (⟨"StairWaysModel", "worthAt", "(I)I"⟩, 37), (⟨"StairWaysModel", "moves", "(IIIIIIJ)V"⟩, 37), (⟨"StairWaysModel", "comes", "(III)I"⟩, 37)]
theorem lw_r7 : ∀ q ∈ lw_privs_7, lw_okq q := List.forall_mem_cons.mpr ⟨lw_p96, List.forall_mem_cons.mpr ⟨lw_p97, List.forall_mem_cons.mpr ⟨lw_p98, List.forall_mem_cons.mpr ⟨lw_p99, List.forall_mem_cons.mpr ⟨lw_p100, List.forall_mem_cons.mpr ⟨lw_p101, List.forall_mem_cons.mpr ⟨lw_p102, List.forall_mem_cons.mpr ⟨lw_p103, List.forall_mem_cons.mpr ⟨lw_p104, List.forall_mem_cons.mpr ⟨lw_p105, List.forall_mem_cons.mpr ⟨lw_p106, List.forall_mem_cons.mpr ⟨lw_p107, List.forall_mem_cons.mpr ⟨lw_p108, List.forall_mem_cons.mpr ⟨lw_p109, List.forall_mem_cons.mpr ⟨lw_p110, List.forall_mem_cons.mpr ⟨lw_p111, fun _ h => absurd h List.not_mem_nil⟩⟩⟩⟩⟩⟩⟩⟩⟩⟩⟩⟩⟩⟩⟩⟩
theorem lw_p112 : lw_okq (⟨"StairWaysModel", "findLeads", "()V"⟩, 37) := ⟨⟨by decide +kernel, by decide +kernel⟩, List.mem_of_getElem? (i := 1186) (by decide +kernel), List.mem_of_getElem? (i := 1681) (by decide +kernel), List.mem_of_getElem? (i := 1682) (by decide +kernel)⟩
theorem lw_p113 : lw_okq (⟨"StairWaysModel", "isOpen", "(I)Z"⟩, 37) := ⟨⟨by decide +kernel, by decide +kernel⟩, List.mem_of_getElem? (i := 1186) (by decide +kernel), List.mem_of_getElem? (i := 1685) (by decide +kernel), List.mem_of_getElem? (i := 1686) (by decide +kernel)⟩
theorem lw_p114 : lw_okq (⟨"StairWaysModel", "isTrodden", "(I)Z"⟩, 37) := ⟨⟨by decide +kernel, by decide +kernel⟩, List.mem_of_getElem? (i := 1186) (by decide +kernel), List.mem_of_getElem? (i := 1689) (by decide +kernel), List.mem_of_getElem? (i := 1690) (by decide +kernel)⟩
theorem lw_p115 : lw_okq (⟨"StairWaysModel", "finds", "(I)Z"⟩, 37) := ⟨⟨by decide +kernel, by decide +kernel⟩, List.mem_of_getElem? (i := 1186) (by decide +kernel), List.mem_of_getElem? (i := 1693) (by decide +kernel), List.mem_of_getElem? (i := 1694) (by decide +kernel)⟩
theorem lw_p116 : lw_okq (⟨"StairWaysModel", "draw", "(I)I"⟩, 37) := ⟨⟨by decide +kernel, by decide +kernel⟩, List.mem_of_getElem? (i := 1186) (by decide +kernel), List.mem_of_getElem? (i := 1706) (by decide +kernel), List.mem_of_getElem? (i := 1707) (by decide +kernel)⟩
def lw_privs_8 : List (MethodName × Nat) := [(⟨"StairWaysModel", "findLeads", "()V"⟩, 37), (⟨"StairWaysModel", "isOpen", "(I)Z"⟩, 37), (⟨"StairWaysModel", "isTrodden", "(I)Z"⟩, 37), (⟨"StairWaysModel", "finds", "(I)Z"⟩, 37), (⟨"StairWaysModel", "draw", "(I)I"⟩, 37)]
theorem lw_r8 : ∀ q ∈ lw_privs_8, lw_okq q := List.forall_mem_cons.mpr ⟨lw_p112, List.forall_mem_cons.mpr ⟨lw_p113, List.forall_mem_cons.mpr ⟨lw_p114, List.forall_mem_cons.mpr ⟨lw_p115, List.forall_mem_cons.mpr ⟨lw_p116, fun _ h => absurd h List.not_mem_nil⟩⟩⟩⟩⟩
def lw_privs : List (MethodName × Nat) := lw_privs_1 ++ (lw_privs_2 ++ (lw_privs_3 ++ (lw_privs_4 ++ (lw_privs_5 ++ (lw_privs_6 ++ (lw_privs_7 ++ (lw_privs_8)))))))
def lw_tbl : List Cond := k2_sels lw_privs ++ tables_1
theorem lw_privs_ok : ∀ q ∈ lw_privs, lw_okq q := by
  show ∀ q ∈ lw_privs_1 ++ (lw_privs_2 ++ (lw_privs_3 ++ (lw_privs_4 ++ (lw_privs_5 ++ (lw_privs_6 ++ (lw_privs_7 ++ (lw_privs_8))))))), lw_okq q
  exact List.forall_mem_append.mpr ⟨lw_r1, List.forall_mem_append.mpr ⟨lw_r2, List.forall_mem_append.mpr ⟨lw_r3, List.forall_mem_append.mpr ⟨lw_r4, List.forall_mem_append.mpr ⟨lw_r5, List.forall_mem_append.mpr ⟨lw_r6, List.forall_mem_append.mpr ⟨lw_r7, lw_r8⟩⟩⟩⟩⟩⟩⟩
end
section
/-! THE PURE MACHINE: a small machine over ids in place of addresses, in which all the reasoning on what the methods answer is done; part 03 says that the JVM does what it does. -/
abbrev Hp : Type := (Nat → Nat → Int32) × (Nat → Nat → Int64) × (Nat → Nat → Option Nat) × (Nat → Nat) × (Nat → Nat) × Nat × Nat
/-- ints, longs, references of the cell r at place k; its kind, its length; how many cells, how many slots -/
def hI (h : Hp) : Nat → Nat → Int32 := h.1
def hL (h : Hp) : Nat → Nat → Int64 := h.2.1
def hR (h : Hp) : Nat → Nat → Option Nat := h.2.2.1
def hK (h : Hp) : Nat → Nat := h.2.2.2.1
def hN (h : Hp) : Nat → Nat := h.2.2.2.2.1
def hC (h : Hp) : Nat := h.2.2.2.2.2.1
def hS (h : Hp) : Nat := h.2.2.2.2.2.2
def sI (h : Hp) (r k : Nat) (v : Int32) : Hp := (fun a b => if a = r ∧ b = k then v else h.1 a b, h.2)
def sL (h : Hp) (r k : Nat) (v : Int64) : Hp := (h.1, fun a b => if a = r ∧ b = k then v else h.2.1 a b, h.2.2)
def sR (h : Hp) (r k : Nat) (v : Nat) : Hp := (h.1, h.2.1, fun a b => if a = r ∧ b = k then some v else h.2.2.1 a b, h.2.2.2)
/-- a new cell of a kind: len places, n slots -/
def sN (h : Hp) (kd len n : Nat) : Hp :=
  (fun a b => if a = hC h then 0 else h.1 a b, fun a b => if a = hC h then 0 else h.2.1 a b, fun a b => if a = hC h then none else h.2.2.1 a b,
   fun a => if a = hC h then kd else h.2.2.2.1 a, fun a => if a = hC h then len else h.2.2.2.2.1 a, hC h + 1, hS h + n)
/-- arraycopy of ints -/
def sCp (h : Hp) (src sp dst dp n : Nat) : Hp := (fun a b => if a = dst ∧ (dp ≤ b ∧ b < dp + n) then h.1 src (sp + (b - dp)) else h.1 a b, h.2)
abbrev AV : Type := Int32 ⊕ Int64 ⊕ (Nat × Nat)
abbrev vI (x : Int32) : AV := .inl x
abbrev vL (x : Int64) : AV := .inr (.inl x)
abbrev vR (k r : Nat) : AV := .inr (.inr (k, r))
abbrev Lo : Type := List (Option AV)
abbrev St : Type := Nat × Lo × List AV × Hp
abbrev Rs : Type := Option AV × Hp
/-- an instruction: its kind, the next pc, numbers a b c, an int, a long, targets -/
abbrev En : Type := Nat × Nat × Nat × Nat × Nat × Int32 × Int64 × List Nat
/-- a choice that nothing decides by itself -/
noncomputable def ifp {α : Type} (c : Prop) (a b : α) : α := @ite α c (Classical.propDecidable c) a b
theorem ifp_t {α : Type} {c : Prop} {a b : α} (h : c) : ifp c a b = a := if_pos h
theorem ifp_f {α : Type} {c : Prop} {a b : α} (h : ¬ c) : ifp c a b = b := if_neg h
theorem ifp_i {α : Type} (c : Prop) [Decidable c] (a b : α) : ifp c a b = if c then a else b := by
  by_cases h : c
  · rw [ifp_t h, if_pos h]
  · rw [ifp_f h, if_neg h]
def inb (i : Int32) (n : Nat) : Bool := decide (0 ≤ i.toInt ∧ i.toInt < n)
def isB (x : Int32) : Bool := decide (x = 0 ∨ x = 1)
def isBy (x : Int32) : Bool := decide (x.toInt8.toInt32 = x)
def isCh (x : Int32) : Bool := decide (0 ≤ x.toInt ∧ x.toInt < 65536)
def ix (i : Int32) : Nat := i.toNatClampNeg
def chr (x : Int32) : Int32 := (x.toUInt32 % 65536).toInt32
def ibin (k : Nat) (x y : Int32) : Int32 := match k with
  | 0 => x + y | 1 => x - y | 2 => x * y | 3 => x &&& y | 4 => x ||| y | 5 => x ^^^ y | 6 => x <<< (y &&& 31) | _ => x >>> (y &&& 31)
def lbin (k : Nat) (x y : Int64) : Int64 := match k with
  | 0 => x + y | 1 => x - y | 2 => x * y | 3 => x &&& y | _ => x ||| y
def irem (x y : Int32) : Int32 := x - x / y * y
def lrem (x y : Int64) : Int64 := x - x / y * y
def lget (lo : Lo) (a : Nat) : Option AV := lo.getD a none
/-- what lies ahead of a place and is a long falls with it -/
def lclr (lo : Lo) (a : Nat) : Lo := match a with
  | 0 => lo
  | b + 1 => match lget lo b with
    | some (.inr (.inl _)) => lo.set b none
    | _ => lo
def lset1 (lo : Lo) (a : Nat) (v : AV) : Lo := (lclr lo a).set a (some v)
def lset2 (lo : Lo) (a : Nat) (v : AV) : Lo := ((lclr lo a).set (a + 1) none).set a (some v)
def lkill (lo : Lo) : List Nat → Lo
  | [] => lo
  | k :: ks => lkill (lo.set k none) ks
/-- a list, spelled out, is handed on -/
def frc {α β : Type} : List α → (List α → β) → β
  | [], k => k []
  | x :: l, k => frc l (fun l' => k (x :: l'))
theorem frc_eq {α β : Type} : ∀ (l : List α) (k : List α → β), frc l k = k l
  | [], _ => rfl
  | x :: l, k => by rw [frc, frc_eq]
def bR {α : Type} (o : Option Nat) (k : Nat → Option α) : Option α := match o with
  | some x => k x
  | none => none
def bI {α : Type} (o : Option Rs) (k : Int32 → Hp → Option α) : Option α := match o with
  | some (some (.inl x), h) => k x h
  | _ => none
def bL {α : Type} (o : Option Rs) (k : Int64 → Hp → Option α) : Option α := match o with
  | some (some (.inr (.inl x)), h) => k x h
  | _ => none
def bV {α : Type} (o : Option Rs) (k : Hp → Option α) : Option α := match o with
  | some (none, h) => k h
  | _ => none
noncomputable def cnd {α : Type} (c : Nat) (x y : Int32) (t f : α) : α := match c with
  | 0 => ifp (x = y) t f
  | 1 => ifp (x = y) f t
  | 2 => ifp (x < y) t f
  | 3 => ifp (x < y) f t
  | 4 => ifp (y < x) t f
  | _ => ifp (y < x) f t
noncomputable def swt {α : Type} (x lo : Int32) (tg : List Nat) (k : Nat → α) (d : α) : α := match tg with
  | [] => d
  | t :: ts => ifp (x = lo) (k t) (swt x (lo + 1) ts k d)
/-- a new cell's id -/
noncomputable def alc {α : Type} (h : Hp) (k : Nat → Option α) : Option α := ifp (hC h < 1000000) (k (hC h)) none
section Machine
variable (kn : St → Option Rs) (kc : Nat → List AV → Hp → Option Rs)
def o_ld (e : En) (lo : Lo) (st : List AV) (h : Hp) : Option Rs := match e with
  | (op, nx, a, _, _, ci, cl, _) => match op with
    | 0 => kn (nx, lo, vI ci :: st, h)
    | 1 => kn (nx, lo, vL cl :: st, h)
    | 2 => match lget lo a with
      | some (.inl x) => kn (nx, lo, vI x :: st, h)
      | _ => none
    | 3 => match lget lo a with
      | some (.inr (.inl x)) => kn (nx, lo, vL x :: st, h)
      | _ => none
    | 4 => match lget lo a with
      | some (.inr (.inr (k, r))) => bif Nat.beq k 43 then none else kn (nx, lo, vR k r :: st, h)
      | _ => none
    | 5 => match st with
      | .inl x :: st => frc (lset1 lo a (vI x)) (fun lo => kn (nx, lo, st, h))
      | _ => none
    | 6 => match st with
      | .inr (.inl x) :: st => frc (lset2 lo a (vL x)) (fun lo => kn (nx, lo, st, h))
      | _ => none
    | 7 => match st with
      | .inr (.inr (k, r)) :: st => bif Nat.beq k 43 then none else frc (lset1 lo a (vR k r)) (fun lo => kn (nx, lo, st, h))
      | _ => none
    | _ => match lget lo a with
      | some (.inl x) => frc (lset1 lo a (vI (x + ci))) (fun lo => kn (nx, lo, st, h))
      | _ => none
noncomputable def o_ar (e : En) (lo : Lo) (st : List AV) (h : Hp) : Option Rs := match e with
  | (op, nx, a, _, _, _, _, _) => match op with
    | 9 => match st with
      | .inl y :: .inl x :: st => kn (nx, lo, vI (ibin a x y) :: st, h)
      | _ => none
    | 10 => match st with
      | .inl y :: .inl x :: st => ifp (y = 0) none (kn (nx, lo, vI (x / y) :: st, h))
      | _ => none
    | 11 => match st with
      | .inl y :: .inl x :: st => ifp (y = 0) none (kn (nx, lo, vI (irem x y) :: st, h))
      | _ => none
    | 12 => match st with
      | .inl x :: st => kn (nx, lo, vI (-x) :: st, h)
      | _ => none
    | 13 => match st with
      | .inr (.inl y) :: .inr (.inl x) :: st => kn (nx, lo, vL (lbin a x y) :: st, h)
      | _ => none
    | 14 => match st with
      | .inl y :: .inr (.inl x) :: st => kn (nx, lo, vL (x <<< (y.toInt64 &&& 63)) :: st, h)
      | _ => none
    | 15 => match st with
      | .inl y :: .inr (.inl x) :: st => kn (nx, lo, vL (x >>> (y.toInt64 &&& 63)) :: st, h)
      | _ => none
    | 16 => match st with
      | .inr (.inl y) :: .inr (.inl x) :: st => ifp (y = 0) none (kn (nx, lo, vL (x / y) :: st, h))
      | _ => none
    | _ => match st with
      | .inr (.inl y) :: .inr (.inl x) :: st => ifp (y = 0) none (kn (nx, lo, vL (lrem x y) :: st, h))
      | _ => none
noncomputable def o_cv (e : En) (lo : Lo) (st : List AV) (h : Hp) : Option Rs := match e with
  | (op, nx, a, b, _, ci, _, tg) => match op with
    | 18 => match st with
      | .inl x :: st => kn (nx, lo, vL x.toInt64 :: st, h)
      | _ => none
    | 19 => match st with
      | .inr (.inl x) :: st => kn (nx, lo, vI x.toInt32 :: st, h)
      | _ => none
    | 20 => match st with
      | .inl x :: st => kn (nx, lo, vI (chr x) :: st, h)
      | _ => none
    | 21 => match st with
      | .inr (.inl y) :: .inr (.inl x) :: st => kn (nx, lo, vI (lg_cmp x y) :: st, h)
      | _ => none
    | 22 => match st with
      | .inl x :: st => kn (nx, lo, vI x :: vI x :: st, h)
      | .inr (.inr (k, r)) :: st => bif Nat.beq k 43 then none else kn (nx, lo, vR k r :: vR k r :: st, h)
      | _ => none
    | 23 => match st with
      | .inl y :: .inr (.inr (k, r)) :: st => bif Nat.beq k 43 then none else kn (nx, lo, vI y :: vR k r :: vI y :: vR k r :: st, h)
      | _ => none
    | 24 => match st with
      | .inl y :: .inl x :: st => cnd a x y (kn (b, lo, st, h)) (kn (nx, lo, st, h))
      | _ => none
    | 25 => match st with
      | .inl x :: st => cnd a x 0 (kn (b, lo, st, h)) (kn (nx, lo, st, h))
      | _ => none
    | 26 => kn (b, lo, st, h)
    | 27 => match st with
      | .inl x :: st => swt x ci tg (fun t => kn (t, lo, st, h)) (kn (b, lo, st, h))
      | _ => none
    | _ => match st with
      | .inr (.inr (k, _)) :: st => bif Nat.beq k 43 then none else kn (nx, lo, st, h)
      | _ => none
noncomputable def o_fd (e : En) (lo : Lo) (st : List AV) (h : Hp) : Option Rs := match e with
  | (op, nx, a, b, c, _, _, _) => match op with
    | 29 => match st with
      | .inr (.inr (k, r)) :: st => bif Nat.beq k a then kn (nx, lo, vI (hI h r b) :: st, h) else none
      | _ => none
    | 30 => match st with
      | .inr (.inr (k, r)) :: st => bif Nat.beq k a then kn (nx, lo, vL (hL h r b) :: st, h) else none
      | _ => none
    | 31 => match st with
      | .inr (.inr (k, r)) :: st => bif Nat.beq k a then bR (hR h r b) (fun x => kn (nx, lo, vR c x :: st, h)) else none
      | _ => none
    | 32 => match st with
      | .inl v :: .inr (.inr (k, r)) :: st => bif Nat.beq k a then kn (nx, lo, st, sI h r b v) else none
      | _ => none
    | 33 => match st with
      | .inl v :: .inr (.inr (k, r)) :: st => bif Nat.beq k a then (bif isB v then kn (nx, lo, st, sI h r b v) else none) else none
      | _ => none
    | 34 => match st with
      | .inr (.inl v) :: .inr (.inr (k, r)) :: st => bif Nat.beq k a then kn (nx, lo, st, sL h r b v) else none
      | _ => none
    | _ => match st with
      | .inr (.inr (k2, v)) :: .inr (.inr (k, r)) :: st => bif Nat.beq k a && Nat.beq k2 c then kn (nx, lo, st, sR h r b v) else none
      | _ => none
/-- constant texts: their bytes -/
def sbyt : List (List Int32) := [[40, 41, 60, 61, 43, 45, 42, 59], [115, 116, 97, 105, 114], [115, 116, 114, 105, 100, 101, 115], [98, 114, 111, 107, 101, 110], [99, 114, 101, 97, 107], [108, 97, 110, 100, 105, 110, 103], [99, 114, 101, 97, 107, 115], [98, 97, 114], [102, 111, 111, 116], [108, 101, 102, 116], [114, 105, 103, 104, 116], [99, 111, 117, 110, 116], [116, 111], [103, 114, 101, 97, 116], [116, 105, 109, 101, 115], [109, 111, 111, 100], [110, 111, 116], [115, 116, 114, 105, 100, 101], [108, 97, 115, 116], [115, 116, 101, 112], [116, 97, 107, 101, 110], [97, 110, 100], [111, 114]]
def slen (i : Nat) : Nat := (sbyt.getD i []).length
def sby (i j : Nat) : Int32 := (sbyt.getD i []).getD j 0
noncomputable def o_al (e : En) (lo : Lo) (st : List AV) (h : Hp) : Option Rs := match e with
  | (op, nx, _, _, _, _, _, _) => match op with
    | 36 => match st with
      | .inr (.inr (k, r)) :: st => bif Nat.blt 19 k && Nat.blt k 25 || Nat.beq k 42 then kn (nx, lo, vI (nI (hN h r)) :: st, h) else bif Nat.beq k 41 then kn (nx, lo, vI (nI (slen r)) :: st, h) else none
      | _ => none
    | 37 => match st with
      | .inl i :: .inr (.inr (k, r)) :: st => bif Nat.beq k 20 || Nat.beq k 42 then (ifp (inb i (hN h r) = true) (kn (nx, lo, vI (hI h r (ix i)) :: st, h)) none) else none
      | _ => none
    | 38 => match st with
      | .inl i :: .inr (.inr (k, r)) :: st => bif Nat.beq k 21 then (ifp (inb i (hN h r) = true) (kn (nx, lo, vL (hL h r (ix i)) :: st, h)) none) else none
      | _ => none
    | 39 => match st with
      | .inl i :: .inr (.inr (k, r)) :: st => bif Nat.beq k 22 then (ifp (inb i (hN h r) = true) (kn (nx, lo, vI (hI h r (ix i)) :: st, h)) none) else none
      | _ => none
    | 40 => match st with
      | .inl i :: .inr (.inr (k, r)) :: st => bif Nat.beq k 23 then (ifp (inb i (hN h r) = true) (kn (nx, lo, vI (hI h r (ix i)) :: st, h)) none) else bif Nat.beq k 41 then (ifp (inb i (slen r) = true) (kn (nx, lo, vI (sby r (ix i)) :: st, h)) none) else none
      | _ => none
    | _ => match st with
      | .inl i :: .inr (.inr (k, r)) :: st => bif Nat.beq k 24 then (ifp (inb i (hN h r) = true) (bR (hR h r (ix i)) (fun x => kn (nx, lo, vR 1 x :: st, h))) none) else none
      | _ => none
noncomputable def o_as (e : En) (lo : Lo) (st : List AV) (h : Hp) : Option Rs := match e with
  | (op, nx, _, _, _, _, _, _) => match op with
    | 42 => match st with
      | .inl v :: .inl i :: .inr (.inr (k, r)) :: st => bif Nat.beq k 20 then (ifp (inb i (hN h r) = true) (kn (nx, lo, st, sI h r (ix i) v)) none) else none
      | _ => none
    | 43 => match st with
      | .inr (.inl v) :: .inl i :: .inr (.inr (k, r)) :: st => bif Nat.beq k 21 then (ifp (inb i (hN h r) = true) (kn (nx, lo, st, sL h r (ix i) v)) none) else none
      | _ => none
    | 44 => match st with
      | .inl v :: .inl i :: .inr (.inr (k, r)) :: st => bif Nat.beq k 22 then (ifp (inb i (hN h r) = true) ((bif isCh v then kn (nx, lo, st, sI h r (ix i) v) else none)) none) else none
      | _ => none
    | 45 => match st with
      | .inl v :: .inl i :: .inr (.inr (k, r)) :: st => bif Nat.beq k 23 then (ifp (inb i (hN h r) = true) ((bif isB v then kn (nx, lo, st, sI h r (ix i) v) else none)) none) else none
      | _ => none
    | _ => match st with
      | .inr (.inr (k2, v)) :: .inl i :: .inr (.inr (k, r)) :: st => bif Nat.beq k 24 && Nat.beq k2 1 then (ifp (inb i (hN h r) = true) (kn (nx, lo, st, sR h r (ix i) v)) none) else none
      | _ => none
noncomputable def o_nw (e : En) (lo : Lo) (st : List AV) (h : Hp) : Option Rs := match e with
  | (op, nx, a, b, _, _, _, _) => match op with
    | 47 => match st with
      | .inl n :: st => ifp (inb n 1000000 = true) (alc h (fun q => kn (nx, lo, vR a q :: st, sN h a (ix n) (ix n)))) none
      | _ => none
    | 48 => match st with
      | .inl n :: st => ifp (inb n 1000000 = true) (alc h (fun q => kn (nx, lo, vR 24 q :: st, sN h 24 (ix n) (ix n)))) none
      | _ => none
    | _ => alc h (fun q => kn (nx, lo, vR a q :: st, sN h a 0 b))
/-- the words of a row of values -/
def wd : List AV → Nat
  | [] => 0
  | v :: vs => (match v with
    | .inr (.inl _) => 2
    | _ => 1) + wd vs
/-- the receiver's kind -/
def rck (tg : List Nat) (l : List AV) : Bool := match tg with
  | [] => true
  | k :: _ => match l with
    | .inr (.inr (k', _)) :: _ => Nat.beq k' k
    | _ => false
noncomputable def o_cl (e : En) (lo : Lo) (st : List AV) (h : Hp) : Option Rs := match e with
  | (op, nx, a, b, c, _, _, tg) => match op with
    | 50 => bif Nat.ble b st.length && rck tg (st.drop (b - 1)) && Nat.ble (wd (st.drop b)) 8 then frc (st.take b).reverse (fun ar => frc (st.drop b) (fun st => match c with
      | 0 => bV (kc a ar h) (fun h => kn (nx, lo, st, h))
      | 1 => bI (kc a ar h) (fun x h => kn (nx, lo, vI x :: st, h))
      | _ => bL (kc a ar h) (fun x h => kn (nx, lo, vL x :: st, h)))) else none
    | 51 => match st with
      | .inr (.inr (k, _)) :: st => bif Nat.beq k 43 || Nat.blt 8 (wd st) then none else kn (nx, lo, st, h)
      | _ => none
    | _ => match st with
      | .inl n :: .inl dp :: .inr (.inr (k1, d)) :: .inl sp :: .inr (.inr (k0, s)) :: st => bif Nat.beq k1 20 && Nat.beq k0 20 && Nat.ble (wd st) 8 then (ifp (0 ≤ n.toInt ∧ 0 ≤ dp.toInt ∧ 0 ≤ sp.toInt ∧ ix sp + ix n ≤ hN h s ∧ ix dp + ix n ≤ hN h d) (kn (nx, lo, st, sCp h s (ix sp) d (ix dp) (ix n))) none) else none
      | _ => none
def o_rt (e : En) (lo : Lo) (st : List AV) (h : Hp) : Option Rs := match e with
  | (op, nx, a, _, _, ci, _, _) => match op with
    | 53 => match st with
      | [.inl x] => match a with
        | 0 => some (some (vI x), h)
        | 1 => bif isB x then some (some (vI x), h) else none
        | 2 => bif isBy x then some (some (vI x), h) else none
        | _ => bif isCh x then some (some (vI x), h) else none
      | _ => none
    | 54 => match st with
      | [.inr (.inl x)] => some (some (vL x), h)
      | _ => none
    | 55 => match st with
      | [] => some (none, h)
      | _ => none
    | 56 => kn (nx, lo, vI ci :: st, h)
    | 57 => match st with
      | .inr (.inr (k, r)) :: st => bif Nat.beq k 40 then kn (nx, lo, vR 41 r :: st, h) else none
      | _ => none
    | 58 => match st with
      | .inr (.inr (k, _)) :: st => bif Nat.beq k 40 then kn (nx, lo, vI 0 :: st, h) else none
      | _ => none
    | 59 => kn (nx, lo, vR 40 a :: st, h)
    | 60 => kn (nx, lo, vR 43 0 :: st, h)
    | 61 => match st with
      | .inl _ :: st => kn (nx, lo, st, h)
      | _ => none
    | _ => match st with
      | .inl x :: st => kn (nx, lo, vI x.toInt8.toInt32 :: st, h)
      | _ => none
noncomputable def o_op (e : En) (lo : Lo) (st : List AV) (h : Hp) : Option Rs :=
  bif Nat.blt e.1 29 then (bif Nat.blt e.1 9 then o_ld kn e lo st h else bif Nat.blt e.1 18 then o_ar kn e lo st h else o_cv kn e lo st h)
  else bif Nat.blt e.1 47 then (bif Nat.blt e.1 36 then o_fd kn e lo st h else bif Nat.blt e.1 42 then o_al kn e lo st h else o_as kn e lo st h)
  else bif Nat.blt e.1 50 then o_nw kn e lo st h else bif Nat.blt e.1 53 then o_cl kn kc e lo st h else bif Nat.blt e.1 63 then o_rt kn e lo st h else none
end Machine
/-- a method's text: its instructions by their pc; which locals are dead at which pc -/
abbrev Tx : Type := List (Nat × En) × List (Nat × List Nat)
def lk {α : Type} : List (Nat × α) → Nat → Option α
  | [], _ => none
  | (k, x) :: l, p => bif Nat.beq k p then some x else lk l p
/-- what is dead at a place is forgotten there -/
def kil (t : Tx) (S : St) : St := match S with
  | (pc, lo, st, h) => match lk t.2 pc with
    | some ks => frc (lkill lo ks) (fun lo => (pc, lo, st, h))
    | none => (pc, lo, st, h)
noncomputable def run (kc : Nat → List AV → Hp → Option Rs) (t : Tx) : Nat → St → Option Rs
  | 0, _ => none
  | n + 1, (pc, lo, st, h) => match lk t.1 pc with
    | some e => o_op (fun S' => run kc t n (kil t S')) kc e lo st h
    | none => none
noncomputable def evs (kc : Nat → List AV → Hp → Option Rs) (t : Tx) (S : St) : Option Rs :=
  @dite _ (∃ n, (run kc t n S).isSome = true) (Classical.propDecidable _) (fun h => run kc t (Classical.choose h) S) (fun _ => none)
/-- a way of going on: it ends by itself, or by one that it goes on to -/
def Us (F : (St → Option Rs) → Option Rs) : Prop := ∀ kn r, F kn = some r → (∃ S, kn S = some r ∧ ∀ kn', kn' S = some r → F kn' = some r) ∨ ∀ kn', F kn' = some r
theorem Us.k (S : St) : Us (fun kn => kn S) := fun _ _ h => Or.inl ⟨S, h, fun _ h => h⟩
theorem Us.n : Us (fun _ => none) := fun _ _ h => by cases h
theorem Us.s (o : Option Rs) : Us (fun _ => o) := fun _ _ h => Or.inr fun _ => h
theorem Us.i {c : Prop} {F G : (St → Option Rs) → Option Rs} (hF : Us F) (hG : Us G) : Us (fun kn => ifp c (F kn) (G kn)) := by
  by_cases h : c
  · simpa only [ifp_t h] using hF
  · simpa only [ifp_f h] using hG
theorem Us.c {c : Bool} {F G : (St → Option Rs) → Option Rs} (hF : Us F) (hG : Us G) : Us (fun kn => bif c then F kn else G kn) := by
  cases c
  · exact hG
  · exact hF
theorem Us.cn {a : Nat} {x y : Int32} {F G : (St → Option Rs) → Option Rs} (hF : Us F) (hG : Us G) : Us (fun kn => cnd a x y (F kn) (G kn)) := by
  unfold cnd
  split
  · exact hF.i hG
  · exact hG.i hF
  · exact hF.i hG
  · exact hG.i hF
  · exact hF.i hG
  · exact hG.i hF
theorem Us.sw {x : Int32} {F : Nat → (St → Option Rs) → Option Rs} {G : (St → Option Rs) → Option Rs} (hF : ∀ t, Us (F t)) (hG : Us G) : ∀ (tg : List Nat) (lo : Int32), Us (fun kn => swt x lo tg (fun t => F t kn) (G kn))
  | [], _ => hG
  | t :: ts, lo => (hF t).i (Us.sw hF hG ts (lo + 1))
theorem Us.a {h : Hp} {F : Nat → (St → Option Rs) → Option Rs} (hF : ∀ x, Us (F x)) : Us (fun kn => alc h (fun x => F x kn)) := (hF (hC h)).i Us.n
theorem Us.r {o : Option Nat} {F : Nat → (St → Option Rs) → Option Rs} (hF : ∀ x, Us (F x)) : Us (fun kn => bR o (fun x => F x kn)) := by
  cases o with
  | none => exact Us.n
  | some x => exact hF x
theorem Us.bi {o : Option Rs} {F : Int32 → Hp → (St → Option Rs) → Option Rs} (hF : ∀ x h, Us (F x h)) : Us (fun kn => bI o (fun x h => F x h kn)) := by
  unfold bI
  split
  · exact hF _ _
  · exact Us.n
theorem Us.bl {o : Option Rs} {F : Int64 → Hp → (St → Option Rs) → Option Rs} (hF : ∀ x h, Us (F x h)) : Us (fun kn => bL o (fun x h => F x h kn)) := by
  unfold bL
  split
  · exact hF _ _
  · exact Us.n
theorem Us.bv {o : Option Rs} {F : Hp → (St → Option Rs) → Option Rs} (hF : ∀ h, Us (F h)) : Us (fun kn => bV o (fun h => F h kn)) := by
  unfold bV
  split
  · exact hF _
  · exact Us.n
theorem us_ld (e : En) (lo : Lo) (st : List AV) (h : Hp) : Us (fun kn => o_ld kn e lo st h) := by
  obtain ⟨op, nx, a, b, c, ci, cl, tg⟩ := e
  simp only [o_ld, frc_eq]
  (repeat' split) <;> (repeat' first | exact Us.n | exact Us.k _ | exact Us.s _ | refine Us.cn ?_ ?_ | exact Us.sw (fun _ => Us.k _) (Us.k _) _ _ | refine Us.c ?_ ?_ | refine Us.i ?_ ?_ | refine Us.r fun _ => ?_ | refine Us.a fun _ => ?_ | refine Us.bv fun _ => ?_ | refine Us.bi fun _ _ => ?_ | refine Us.bl fun _ _ => ?_)
theorem us_ar (e : En) (lo : Lo) (st : List AV) (h : Hp) : Us (fun kn => o_ar kn e lo st h) := by
  obtain ⟨op, nx, a, b, c, ci, cl, tg⟩ := e
  simp only [o_ar]
  (repeat' split) <;> (repeat' first | exact Us.n | exact Us.k _ | exact Us.s _ | refine Us.cn ?_ ?_ | exact Us.sw (fun _ => Us.k _) (Us.k _) _ _ | refine Us.c ?_ ?_ | refine Us.i ?_ ?_ | refine Us.r fun _ => ?_ | refine Us.a fun _ => ?_ | refine Us.bv fun _ => ?_ | refine Us.bi fun _ _ => ?_ | refine Us.bl fun _ _ => ?_)
theorem us_cv (e : En) (lo : Lo) (st : List AV) (h : Hp) : Us (fun kn => o_cv kn e lo st h) := by
  obtain ⟨op, nx, a, b, c, ci, cl, tg⟩ := e
  simp only [o_cv]
  (repeat' split) <;> (repeat' first | exact Us.n | exact Us.k _ | exact Us.s _ | refine Us.cn ?_ ?_ | exact Us.sw (fun _ => Us.k _) (Us.k _) _ _ | refine Us.c ?_ ?_ | refine Us.i ?_ ?_ | refine Us.r fun _ => ?_ | refine Us.a fun _ => ?_ | refine Us.bv fun _ => ?_ | refine Us.bi fun _ _ => ?_ | refine Us.bl fun _ _ => ?_)
theorem us_fd (e : En) (lo : Lo) (st : List AV) (h : Hp) : Us (fun kn => o_fd kn e lo st h) := by
  obtain ⟨op, nx, a, b, c, ci, cl, tg⟩ := e
  simp only [o_fd]
  (repeat' split) <;> (repeat' first | exact Us.n | exact Us.k _ | exact Us.s _ | refine Us.cn ?_ ?_ | exact Us.sw (fun _ => Us.k _) (Us.k _) _ _ | refine Us.c ?_ ?_ | refine Us.i ?_ ?_ | refine Us.r fun _ => ?_ | refine Us.a fun _ => ?_ | refine Us.bv fun _ => ?_ | refine Us.bi fun _ _ => ?_ | refine Us.bl fun _ _ => ?_)
theorem us_al (e : En) (lo : Lo) (st : List AV) (h : Hp) : Us (fun kn => o_al kn e lo st h) := by
  obtain ⟨op, nx, a, b, c, ci, cl, tg⟩ := e
  simp only [o_al]
  (repeat' split) <;> (repeat' first | exact Us.n | exact Us.k _ | exact Us.s _ | refine Us.cn ?_ ?_ | exact Us.sw (fun _ => Us.k _) (Us.k _) _ _ | refine Us.c ?_ ?_ | refine Us.i ?_ ?_ | refine Us.r fun _ => ?_ | refine Us.a fun _ => ?_ | refine Us.bv fun _ => ?_ | refine Us.bi fun _ _ => ?_ | refine Us.bl fun _ _ => ?_)
theorem us_as (e : En) (lo : Lo) (st : List AV) (h : Hp) : Us (fun kn => o_as kn e lo st h) := by
  obtain ⟨op, nx, a, b, c, ci, cl, tg⟩ := e
  simp only [o_as]
  (repeat' split) <;> (repeat' first | exact Us.n | exact Us.k _ | exact Us.s _ | refine Us.cn ?_ ?_ | exact Us.sw (fun _ => Us.k _) (Us.k _) _ _ | refine Us.c ?_ ?_ | refine Us.i ?_ ?_ | refine Us.r fun _ => ?_ | refine Us.a fun _ => ?_ | refine Us.bv fun _ => ?_ | refine Us.bi fun _ _ => ?_ | refine Us.bl fun _ _ => ?_)
theorem us_nw (e : En) (lo : Lo) (st : List AV) (h : Hp) : Us (fun kn => o_nw kn e lo st h) := by
  obtain ⟨op, nx, a, b, c, ci, cl, tg⟩ := e
  simp only [o_nw]
  (repeat' split) <;> (repeat' first | exact Us.n | exact Us.k _ | exact Us.s _ | refine Us.cn ?_ ?_ | exact Us.sw (fun _ => Us.k _) (Us.k _) _ _ | refine Us.c ?_ ?_ | refine Us.i ?_ ?_ | refine Us.r fun _ => ?_ | refine Us.a fun _ => ?_ | refine Us.bv fun _ => ?_ | refine Us.bi fun _ _ => ?_ | refine Us.bl fun _ _ => ?_)
theorem us_cl (kc : Nat → List AV → Hp → Option Rs) (e : En) (lo : Lo) (st : List AV) (h : Hp) : Us (fun kn => o_cl kn kc e lo st h) := by
  obtain ⟨op, nx, a, b, c, ci, cl, tg⟩ := e
  simp only [o_cl, frc_eq]
  (repeat' split) <;> (repeat' first | exact Us.n | exact Us.k _ | exact Us.s _ | refine Us.cn ?_ ?_ | exact Us.sw (fun _ => Us.k _) (Us.k _) _ _ | refine Us.c ?_ ?_ | refine Us.i ?_ ?_ | refine Us.r fun _ => ?_ | refine Us.a fun _ => ?_ | refine Us.bv fun _ => ?_ | refine Us.bi fun _ _ => ?_ | refine Us.bl fun _ _ => ?_)
theorem us_rt (e : En) (lo : Lo) (st : List AV) (h : Hp) : Us (fun kn => o_rt kn e lo st h) := by
  obtain ⟨op, nx, a, b, c, ci, cl, tg⟩ := e
  simp only [o_rt]
  (repeat' split) <;> (repeat' first | exact Us.n | exact Us.k _ | exact Us.s _ | refine Us.cn ?_ ?_ | exact Us.sw (fun _ => Us.k _) (Us.k _) _ _ | refine Us.c ?_ ?_ | refine Us.i ?_ ?_ | refine Us.r fun _ => ?_ | refine Us.a fun _ => ?_ | refine Us.bv fun _ => ?_ | refine Us.bi fun _ _ => ?_ | refine Us.bl fun _ _ => ?_)
theorem us_op (kc : Nat → List AV → Hp → Option Rs) (e : En) (lo : Lo) (st : List AV) (h : Hp) : Us (fun kn => o_op kn kc e lo st h) := by
  unfold o_op
  exact (((us_ld e lo st h).c ((us_ar e lo st h).c (us_cv e lo st h)))).c (((us_fd e lo st h).c ((us_al e lo st h).c (us_as e lo st h))).c ((us_nw e lo st h).c ((us_cl kc e lo st h).c ((us_rt e lo st h).c Us.n))))
theorem run_succ {kc : Nat → List AV → Hp → Option Rs} {t : Tx} : ∀ {n : Nat} {S : St} {r : Rs}, run kc t n S = some r → run kc t (n + 1) S = some r := by
  intro n
  induction n with
  | zero => intro S r h; cases h
  | succ n ih =>
    intro S r h
    obtain ⟨pc, lo, st, hp⟩ := S
    rw [run] at h ⊢
    split at h
    · rcases us_op kc _ _ _ _ _ _ h with ⟨S', h1, h2⟩ | h1
      · exact h2 _ (ih h1)
      · exact h1 _
    · cases h
theorem run_mono {kc : Nat → List AV → Hp → Option Rs} {t : Tx} {n m : Nat} {S : St} {r : Rs} (hnm : n ≤ m) (h : run kc t n S = some r) : run kc t m S = some r := by
  induction hnm with
  | refl => exact h
  | step _ ih => exact run_succ ih
theorem evs_iff {kc : Nat → List AV → Hp → Option Rs} {t : Tx} {S : St} {r : Rs} : evs kc t S = some r ↔ ∃ n, run kc t n S = some r := by
  unfold evs
  by_cases h : ∃ n, (run kc t n S).isSome = true
  · simp only [dif_pos h]
    constructor
    · intro q; exact ⟨_, q⟩
    · rintro ⟨n, hn⟩
      obtain ⟨x, hx⟩ := Option.isSome_iff_exists.mp (Classical.choose_spec h)
      rw [hx]
      rcases Nat.le_total n (Classical.choose h) with q | q
      · rw [← hx, run_mono q hn]
      · rw [← run_mono q hx, hn]
  · simp only [dif_neg h]
    constructor
    · intro q; cases q
    · rintro ⟨n, hn⟩
      exact absurd ⟨n, by rw [hn]; rfl⟩ h
theorem opt_ext {α : Type} {a b : Option α} (h : ∀ r, a = some r ↔ b = some r) : a = b := by
  cases a with
  | none => cases b with
    | none => rfl
    | some y => exact absurd ((h y).mpr rfl) (by simp)
  | some x => exact ((h x).mp rfl).symm
/-- one step of the limit -/
theorem evs_step {kc : Nat → List AV → Hp → Option Rs} {t : Tx} (pc : Nat) (lo : Lo) (st : List AV) (h : Hp) : evs kc t (pc, lo, st, h) = match lk t.1 pc with
    | some e => o_op (fun S' => evs kc t (kil t S')) kc e lo st h
    | none => none := by
  refine opt_ext fun r => ?_
  rw [evs_iff]
  cases he : lk t.1 pc with
  | none =>
    simp only
    constructor
    · rintro ⟨n, hn⟩
      cases n with
      | zero => cases hn
      | succ n => rw [run, he] at hn; cases hn
    · intro h; cases h
  | some e =>
    simp only
    constructor
    · rintro ⟨n, hn⟩
      cases n with
      | zero => cases hn
      | succ n =>
        rw [run, he] at hn
        rcases us_op kc _ _ _ _ _ _ hn with ⟨S', h1, h2⟩ | h1
        · exact h2 _ (evs_iff.mpr ⟨n, h1⟩)
        · exact h1 _
    · intro h
      rcases us_op kc _ _ _ _ _ _ h with ⟨S', h1, h2⟩ | h1
      · obtain ⟨n, hn⟩ := evs_iff.mp h1
        exact ⟨n + 1, by rw [run, he]; exact h2 _ hn⟩
      · exact ⟨1, by rw [run, he]; exact h1 _⟩
def elm (p : Nat) : List Nat → Bool
  | [] => false
  | q :: qs => bif Nat.beq q p then true else elm p qs
/-- some steps at once, up to the places 'stops' -/
noncomputable def xpd (kc : Nat → List AV → Hp → Option Rs) (t : Tx) (stops : List Nat) : Nat → St → Option Rs
  | 0, S => evs kc t S
  | n + 1, (pc, lo, st, h) => match lk t.1 pc with
    | some e => o_op (fun S' => match kil t S' with
        | (pc, lo, st, h) => bif elm pc stops then evs kc t (pc, lo, st, h) else xpd kc t stops n (pc, lo, st, h)) kc e lo st h
    | none => none
theorem evs_xpd (kc : Nat → List AV → Hp → Option Rs) (t : Tx) (stops : List Nat) : ∀ (n : Nat) (S : St), evs kc t S = xpd kc t stops n S := by
  intro n
  induction n with
  | zero => intro S; rfl
  | succ n ih =>
    intro S
    obtain ⟨pc, lo, st, h⟩ := S
    rw [evs_step, xpd]
    have : (fun S' => evs kc t (kil t S')) = (fun S' => match kil t S' with
        | (pc, lo, st, h) => bif elm pc stops then evs kc t (pc, lo, st, h) else xpd kc t stops n (pc, lo, st, h)) := by
      funext S'
      obtain ⟨pc, lo, st, h⟩ := kil t S'
      show evs kc t (pc, lo, st, h) = bif elm pc stops then evs kc t (pc, lo, st, h) else xpd kc t stops n (pc, lo, st, h)
      cases elm pc stops
      · exact ih _
      · rfl
    rw [this]
/-- a method's start -/
def ael : List AV → Lo
  | [] => []
  | v :: vs => match v with
    | .inr (.inl x) => some (vL x) :: none :: ael vs
    | v => some v :: ael vs
def pad : Lo → Nat → Lo
  | l, 0 => l
  | l, n + 1 => pad (l ++ [none]) n
end
section
/-! The texts of the methods for the pure machine (by program: wip/whole/gen.py), and their meaning. -/
def tx_Climber_new : Tx := ([(0, (4, 1, 0, 0, 0, 0, 0, [])), (1, (51, 4, 0, 0, 0, 0, 0, [])), (4, (4, 5, 0, 0, 0, 0, 0, [])), (5, (0, 7, 0, 0, 0, 40, 0, [])), (7, (47, 9, 20, 0, 0, 0, 0, [])), (9, (35, 12, 0, 0, 20, 0, 0, [])), (12, (55, 13, 0, 0, 0, 0, 0, []))], [])
def tx_Climber_start : Tx := ([(0, (4, 1, 0, 0, 0, 0, 0, [])), (1, (0, 2, 0, 0, 0, 0, 0, [])), (2, (0, 3, 0, 0, 0, 0, 0, [])), (3, (0, 4, 0, 0, 0, 0, 0, [])), (4, (0, 5, 0, 0, 0, 0, 0, [])), (5, (0, 6, 0, 0, 0, 0, 0, [])), (6, (50, 9, 2, 6, 0, 0, 0, [0])), (9, (55, 10, 0, 0, 0, 0, 0, []))], [])
def tx_Climber_put : Tx := ([(0, (4, 1, 0, 0, 0, 0, 0, [])), (1, (2, 2, 1, 0, 0, 0, 0, [])), (2, (32, 5, 0, 1, 0, 0, 0, [])), (5, (4, 6, 0, 0, 0, 0, 0, [])), (6, (2, 7, 2, 0, 0, 0, 0, [])), (7, (32, 10, 0, 2, 0, 0, 0, [])), (10, (4, 11, 0, 0, 0, 0, 0, [])), (11, (2, 12, 3, 0, 0, 0, 0, [])), (12, (32, 15, 0, 3, 0, 0, 0, [])), (15, (4, 16, 0, 0, 0, 0, 0, [])), (16, (2, 18, 4, 0, 0, 0, 0, [])), (18, (32, 21, 0, 4, 0, 0, 0, [])), (21, (4, 22, 0, 0, 0, 0, 0, [])), (22, (2, 24, 5, 0, 0, 0, 0, [])), (24, (32, 27, 0, 5, 0, 0, 0, [])), (27, (55, 28, 0, 0, 0, 0, 0, []))], [])
def tx_Climber_follow : Tx := ([(0, (4, 1, 0, 0, 0, 0, 0, [])), (1, (4, 2, 1, 0, 0, 0, 0, [])), (2, (29, 5, 0, 1, 0, 0, 0, [])), (5, (4, 6, 1, 0, 0, 0, 0, [])), (6, (29, 9, 0, 2, 0, 0, 0, [])), (9, (4, 10, 1, 0, 0, 0, 0, [])), (10, (29, 13, 0, 3, 0, 0, 0, [])), (13, (4, 14, 1, 0, 0, 0, 0, [])), (14, (29, 17, 0, 4, 0, 0, 0, [])), (17, (4, 18, 1, 0, 0, 0, 0, [])), (18, (29, 21, 0, 5, 0, 0, 0, [])), (21, (50, 24, 2, 6, 0, 0, 0, [0])), (24, (4, 25, 1, 0, 0, 0, 0, [])), (25, (31, 28, 0, 0, 20, 0, 0, [])), (28, (0, 29, 0, 0, 0, 0, 0, [])), (29, (4, 30, 0, 0, 0, 0, 0, [])), (30, (31, 33, 0, 0, 20, 0, 0, [])), (33, (0, 34, 0, 0, 0, 0, 0, [])), (34, (4, 35, 0, 0, 0, 0, 0, [])), (35, (31, 38, 0, 0, 20, 0, 0, [])), (38, (36, 39, 0, 0, 0, 0, 0, [])), (39, (52, 42, 0, 0, 0, 0, 0, [])), (42, (55, 43, 0, 0, 0, 0, 0, []))], [])
def tx_Climber_can : Tx := ([(0, (4, 1, 1, 0, 0, 0, 0, [])), (1, (2, 2, 2, 0, 0, 0, 0, [])), (2, (50, 5, 28, 2, 1, 0, 0, [5])), (5, (25, 8, 0, 35, 0, 0, 0, [])), (8, (4, 9, 0, 0, 0, 0, 0, [])), (9, (29, 12, 0, 1, 0, 0, 0, [])), (12, (25, 15, 2, 35, 0, 0, 0, [])), (15, (4, 16, 0, 0, 0, 0, 0, [])), (16, (29, 19, 0, 1, 0, 0, 0, [])), (19, (0, 21, 0, 0, 0, 40, 0, [])), (21, (24, 24, 4, 35, 0, 0, 0, [])), (24, (4, 25, 0, 0, 0, 0, 0, [])), (25, (29, 28, 0, 2, 0, 0, 0, [])), (28, (4, 29, 1, 0, 0, 0, 0, [])), (29, (29, 32, 5, 14, 0, 0, 0, [])), (32, (24, 35, 2, 37, 0, 0, 0, [])), (35, (0, 36, 0, 0, 0, 0, 0, [])), (36, (53, 37, 1, 0, 0, 0, 0, [])), (37, (4, 38, 0, 0, 0, 0, 0, [])), (38, (29, 41, 0, 1, 0, 0, 0, [])), (41, (2, 42, 2, 0, 0, 0, 0, [])), (42, (9, 43, 0, 0, 0, 0, 0, [])), (43, (5, 44, 3, 0, 0, 0, 0, [])), (44, (2, 45, 3, 0, 0, 0, 0, [])), (45, (4, 46, 1, 0, 0, 0, 0, [])), (46, (31, 49, 5, 5, 20, 0, 0, [])), (49, (4, 50, 0, 0, 0, 0, 0, [])), (50, (29, 53, 0, 1, 0, 0, 0, [])), (53, (37, 54, 0, 0, 0, 0, 0, [])), (54, (24, 57, 4, 73, 0, 0, 0, [])), (57, (2, 58, 3, 0, 0, 0, 0, [])), (58, (0, 60, 0, 0, 0, 40, 0, [])), (60, (24, 63, 4, 73, 0, 0, 0, [])), (63, (4, 64, 1, 0, 0, 0, 0, [])), (64, (31, 67, 5, 2, 20, 0, 0, [])), (67, (2, 68, 3, 0, 0, 0, 0, [])), (68, (37, 69, 0, 0, 0, 0, 0, [])), (69, (0, 70, 0, 0, 0, 1, 0, [])), (70, (24, 73, 1, 75, 0, 0, 0, [])), (73, (0, 74, 0, 0, 0, 0, 0, [])), (74, (53, 75, 1, 0, 0, 0, 0, [])), (75, (4, 76, 1, 0, 0, 0, 0, [])), (76, (4, 77, 0, 0, 0, 0, 0, [])), (77, (29, 80, 0, 3, 0, 0, 0, [])), (80, (2, 81, 2, 0, 0, 0, 0, [])), (81, (50, 84, 29, 3, 1, 0, 0, [5])), (84, (25, 87, 0, 89, 0, 0, 0, [])), (87, (0, 88, 0, 0, 0, 0, 0, [])), (88, (53, 89, 1, 0, 0, 0, 0, [])), (89, (4, 90, 1, 0, 0, 0, 0, [])), (90, (31, 93, 5, 2, 20, 0, 0, [])), (93, (2, 94, 3, 0, 0, 0, 0, [])), (94, (37, 95, 0, 0, 0, 0, 0, [])), (95, (0, 96, 0, 0, 0, 2, 0, [])), (96, (24, 99, 1, 120, 0, 0, 0, [])), (99, (4, 100, 1, 0, 0, 0, 0, [])), (100, (29, 103, 5, 10, 0, 0, 0, [])), (103, (0, 104, 0, 0, 0, -1, 0, [])), (104, (24, 107, 0, 120, 0, 0, 0, [])), (107, (4, 108, 0, 0, 0, 0, 0, [])), (108, (29, 111, 0, 4, 0, 0, 0, [])), (111, (4, 112, 1, 0, 0, 0, 0, [])), (112, (29, 115, 5, 10, 0, 0, 0, [])), (115, (24, 118, 2, 120, 0, 0, 0, [])), (118, (0, 119, 0, 0, 0, 0, 0, [])), (119, (53, 120, 1, 0, 0, 0, 0, [])), (120, (4, 121, 1, 0, 0, 0, 0, [])), (121, (2, 122, 2, 0, 0, 0, 0, [])), (122, (50, 125, 30, 2, 1, 0, 0, [5])), (125, (25, 128, 0, 139, 0, 0, 0, [])), (128, (4, 129, 0, 0, 0, 0, 0, [])), (129, (29, 132, 0, 5, 0, 0, 0, [])), (132, (4, 133, 1, 0, 0, 0, 0, [])), (133, (29, 136, 5, 16, 0, 0, 0, [])), (136, (24, 139, 3, 143, 0, 0, 0, [])), (139, (0, 140, 0, 0, 0, 1, 0, [])), (140, (26, 143, 0, 144, 0, 0, 0, [])), (143, (0, 144, 0, 0, 0, 0, 0, [])), (144, (53, 145, 1, 0, 0, 0, 0, []))], [(37, [3]), (120, [3])])
def tx_Climber_go : Tx := ([(0, (4, 1, 0, 0, 0, 0, 0, [])), (1, (29, 4, 0, 2, 0, 0, 0, [])), (4, (4, 5, 0, 0, 0, 0, 0, [])), (5, (31, 8, 0, 0, 20, 0, 0, [])), (8, (36, 9, 0, 0, 0, 0, 0, [])), (9, (24, 12, 3, 30, 0, 0, 0, [])), (12, (2, 13, 2, 0, 0, 0, 0, [])), (13, (0, 14, 0, 0, 0, 1, 0, [])), (14, (24, 17, 2, 30, 0, 0, 0, [])), (17, (4, 18, 0, 0, 0, 0, 0, [])), (18, (29, 21, 0, 1, 0, 0, 0, [])), (21, (2, 22, 2, 0, 0, 0, 0, [])), (22, (9, 23, 0, 0, 0, 0, 0, [])), (23, (4, 24, 1, 0, 0, 0, 0, [])), (24, (29, 27, 5, 7, 0, 0, 0, [])), (27, (24, 30, 5, 31, 0, 0, 0, [])), (30, (55, 31, 0, 0, 0, 0, 0, [])), (31, (4, 32, 0, 0, 0, 0, 0, [])), (32, (31, 35, 0, 0, 20, 0, 0, [])), (35, (4, 36, 0, 0, 0, 0, 0, [])), (36, (29, 39, 0, 2, 0, 0, 0, [])), (39, (2, 40, 2, 0, 0, 0, 0, [])), (40, (42, 41, 0, 0, 0, 0, 0, [])), (41, (4, 42, 0, 0, 0, 0, 0, [])), (42, (22, 43, 0, 0, 0, 0, 0, [])), (43, (29, 46, 0, 2, 0, 0, 0, [])), (46, (0, 47, 0, 0, 0, 1, 0, [])), (47, (9, 48, 0, 0, 0, 0, 0, [])), (48, (32, 51, 0, 2, 0, 0, 0, [])), (51, (4, 52, 0, 0, 0, 0, 0, [])), (52, (22, 53, 0, 0, 0, 0, 0, [])), (53, (29, 56, 0, 1, 0, 0, 0, [])), (56, (2, 57, 2, 0, 0, 0, 0, [])), (57, (9, 58, 0, 0, 0, 0, 0, [])), (58, (32, 61, 0, 1, 0, 0, 0, [])), (61, (4, 62, 0, 0, 0, 0, 0, [])), (62, (2, 63, 2, 0, 0, 0, 0, [])), (63, (32, 66, 0, 3, 0, 0, 0, [])), (66, (4, 67, 0, 0, 0, 0, 0, [])), (67, (22, 68, 0, 0, 0, 0, 0, [])), (68, (29, 71, 0, 4, 0, 0, 0, [])), (71, (4, 72, 1, 0, 0, 0, 0, [])), (72, (31, 75, 5, 2, 20, 0, 0, [])), (75, (4, 76, 0, 0, 0, 0, 0, [])), (76, (29, 79, 0, 1, 0, 0, 0, [])), (79, (37, 80, 0, 0, 0, 0, 0, [])), (80, (0, 81, 0, 0, 0, 2, 0, [])), (81, (24, 84, 1, 88, 0, 0, 0, [])), (84, (0, 85, 0, 0, 0, 1, 0, [])), (85, (26, 88, 0, 89, 0, 0, 0, [])), (88, (0, 89, 0, 0, 0, 0, 0, [])), (89, (9, 90, 0, 0, 0, 0, 0, [])), (90, (32, 93, 0, 4, 0, 0, 0, [])), (93, (4, 94, 0, 0, 0, 0, 0, [])), (94, (22, 95, 0, 0, 0, 0, 0, [])), (95, (29, 98, 0, 5, 0, 0, 0, [])), (98, (4, 99, 1, 0, 0, 0, 0, [])), (99, (2, 100, 2, 0, 0, 0, 0, [])), (100, (50, 103, 30, 2, 1, 0, 0, [5])), (103, (25, 106, 0, 110, 0, 0, 0, [])), (106, (0, 107, 0, 0, 0, 1, 0, [])), (107, (26, 110, 0, 111, 0, 0, 0, [])), (110, (0, 111, 0, 0, 0, 0, 0, [])), (111, (9, 112, 0, 0, 0, 0, 0, [])), (112, (32, 115, 0, 5, 0, 0, 0, [])), (115, (55, 116, 0, 0, 0, 0, 0, []))], [(12, []), (89, [])])
def tx_Climber_undo : Tx := ([(0, (4, 1, 0, 0, 0, 0, 0, [])), (1, (29, 4, 0, 2, 0, 0, 0, [])), (4, (0, 5, 0, 0, 0, 1, 0, [])), (5, (24, 8, 2, 36, 0, 0, 0, [])), (8, (4, 9, 0, 0, 0, 0, 0, [])), (9, (29, 12, 0, 2, 0, 0, 0, [])), (12, (4, 13, 0, 0, 0, 0, 0, [])), (13, (31, 16, 0, 0, 20, 0, 0, [])), (16, (36, 17, 0, 0, 0, 0, 0, [])), (17, (24, 20, 4, 36, 0, 0, 0, [])), (20, (4, 21, 0, 0, 0, 0, 0, [])), (21, (29, 24, 0, 1, 0, 0, 0, [])), (24, (25, 27, 2, 36, 0, 0, 0, [])), (27, (4, 28, 0, 0, 0, 0, 0, [])), (28, (29, 31, 0, 1, 0, 0, 0, [])), (31, (0, 33, 0, 0, 0, 40, 0, [])), (33, (24, 36, 5, 37, 0, 0, 0, [])), (36, (55, 37, 0, 0, 0, 0, 0, [])), (37, (4, 38, 0, 0, 0, 0, 0, [])), (38, (22, 39, 0, 0, 0, 0, 0, [])), (39, (29, 42, 0, 4, 0, 0, 0, [])), (42, (4, 43, 1, 0, 0, 0, 0, [])), (43, (31, 46, 5, 2, 20, 0, 0, [])), (46, (4, 47, 0, 0, 0, 0, 0, [])), (47, (29, 50, 0, 1, 0, 0, 0, [])), (50, (37, 51, 0, 0, 0, 0, 0, [])), (51, (0, 52, 0, 0, 0, 2, 0, [])), (52, (24, 55, 1, 59, 0, 0, 0, [])), (55, (0, 56, 0, 0, 0, 1, 0, [])), (56, (26, 59, 0, 60, 0, 0, 0, [])), (59, (0, 60, 0, 0, 0, 0, 0, [])), (60, (9, 61, 1, 0, 0, 0, 0, [])), (61, (32, 64, 0, 4, 0, 0, 0, [])), (64, (4, 65, 0, 0, 0, 0, 0, [])), (65, (22, 66, 0, 0, 0, 0, 0, [])), (66, (29, 69, 0, 5, 0, 0, 0, [])), (69, (4, 70, 1, 0, 0, 0, 0, [])), (70, (4, 71, 0, 0, 0, 0, 0, [])), (71, (29, 74, 0, 3, 0, 0, 0, [])), (74, (50, 77, 30, 2, 1, 0, 0, [5])), (77, (25, 80, 0, 84, 0, 0, 0, [])), (80, (0, 81, 0, 0, 0, 1, 0, [])), (81, (26, 84, 0, 85, 0, 0, 0, [])), (84, (0, 85, 0, 0, 0, 0, 0, [])), (85, (9, 86, 1, 0, 0, 0, 0, [])), (86, (32, 89, 0, 5, 0, 0, 0, [])), (89, (4, 90, 0, 0, 0, 0, 0, [])), (90, (22, 91, 0, 0, 0, 0, 0, [])), (91, (29, 94, 0, 1, 0, 0, 0, [])), (94, (4, 95, 0, 0, 0, 0, 0, [])), (95, (29, 98, 0, 3, 0, 0, 0, [])), (98, (9, 99, 1, 0, 0, 0, 0, [])), (99, (32, 102, 0, 1, 0, 0, 0, [])), (102, (4, 103, 0, 0, 0, 0, 0, [])), (103, (22, 104, 0, 0, 0, 0, 0, [])), (104, (29, 107, 0, 2, 0, 0, 0, [])), (107, (0, 108, 0, 0, 0, 1, 0, [])), (108, (9, 109, 1, 0, 0, 0, 0, [])), (109, (32, 112, 0, 2, 0, 0, 0, [])), (112, (4, 113, 0, 0, 0, 0, 0, [])), (113, (4, 114, 0, 0, 0, 0, 0, [])), (114, (29, 117, 0, 2, 0, 0, 0, [])), (117, (25, 120, 5, 134, 0, 0, 0, [])), (120, (4, 121, 0, 0, 0, 0, 0, [])), (121, (31, 124, 0, 0, 20, 0, 0, [])), (124, (4, 125, 0, 0, 0, 0, 0, [])), (125, (29, 128, 0, 2, 0, 0, 0, [])), (128, (0, 129, 0, 0, 0, 1, 0, [])), (129, (9, 130, 1, 0, 0, 0, 0, [])), (130, (37, 131, 0, 0, 0, 0, 0, [])), (131, (26, 134, 0, 135, 0, 0, 0, [])), (134, (0, 135, 0, 0, 0, 0, 0, [])), (135, (32, 138, 0, 3, 0, 0, 0, [])), (138, (55, 139, 0, 0, 0, 0, 0, []))], [(60, []), (85, [1])])
def tx_Climber_moodOf : Tx := ([(0, (4, 1, 1, 0, 0, 0, 0, [])), (1, (31, 4, 5, 6, 2, 0, 0, [])), (4, (2, 5, 2, 0, 0, 0, 0, [])), (5, (4, 6, 0, 0, 0, 0, 0, [])), (6, (29, 9, 0, 3, 0, 0, 0, [])), (9, (4, 10, 0, 0, 0, 0, 0, [])), (10, (29, 13, 0, 1, 0, 0, 0, [])), (13, (4, 14, 0, 0, 0, 0, 0, [])), (14, (29, 17, 0, 2, 0, 0, 0, [])), (17, (50, 20, 13, 5, 1, 0, 0, [2])), (20, (5, 21, 3, 0, 0, 0, 0, [])), (21, (0, 22, 0, 0, 0, 0, 0, [])), (22, (0, 24, 0, 0, 0, 9, 0, [])), (24, (2, 25, 3, 0, 0, 0, 0, [])), (25, (50, 28, 241, 2, 1, 0, 0, [])), (28, (50, 31, 240, 2, 1, 0, 0, [])), (31, (53, 32, 0, 0, 0, 0, 0, []))], [])
def tx_Climber_feelMoods : Tx := ([(0, (0, 1, 0, 0, 0, 0, 0, [])), (1, (5, 2, 3, 0, 0, 0, 0, [])), (2, (2, 3, 3, 0, 0, 0, 0, [])), (3, (4, 4, 1, 0, 0, 0, 0, [])), (4, (29, 7, 5, 8, 0, 0, 0, [])), (7, (24, 10, 3, 36, 0, 0, 0, [])), (10, (2, 11, 3, 0, 0, 0, 0, [])), (11, (4, 12, 2, 0, 0, 0, 0, [])), (12, (36, 13, 0, 0, 0, 0, 0, [])), (13, (24, 16, 3, 36, 0, 0, 0, [])), (16, (4, 17, 2, 0, 0, 0, 0, [])), (17, (2, 18, 3, 0, 0, 0, 0, [])), (18, (4, 19, 0, 0, 0, 0, 0, [])), (19, (4, 20, 1, 0, 0, 0, 0, [])), (20, (4, 21, 1, 0, 0, 0, 0, [])), (21, (31, 24, 5, 0, 20, 0, 0, [])), (24, (2, 25, 3, 0, 0, 0, 0, [])), (25, (37, 26, 0, 0, 0, 0, 0, [])), (26, (50, 29, 7, 3, 1, 0, 0, [0])), (29, (42, 30, 0, 0, 0, 0, 0, [])), (30, (8, 33, 3, 0, 0, 1, 0, [])), (33, (26, 36, 0, 2, 0, 0, 0, [])), (36, (55, 37, 0, 0, 0, 0, 0, []))], [(2, [])])
def tx_Climber_keepPossible : Tx := ([(0, (0, 1, 0, 0, 0, 0, 0, [])), (1, (5, 3, 4, 0, 0, 0, 0, [])), (3, (0, 4, 0, 0, 0, 0, 0, [])), (4, (5, 6, 5, 0, 0, 0, 0, [])), (6, (2, 8, 5, 0, 0, 0, 0, [])), (8, (4, 9, 1, 0, 0, 0, 0, [])), (9, (29, 12, 5, 8, 0, 0, 0, [])), (12, (24, 15, 3, 71, 0, 0, 0, [])), (15, (2, 17, 5, 0, 0, 0, 0, [])), (17, (4, 18, 2, 0, 0, 0, 0, [])), (18, (36, 19, 0, 0, 0, 0, 0, [])), (19, (24, 22, 3, 71, 0, 0, 0, [])), (22, (2, 24, 5, 0, 0, 0, 0, [])), (24, (4, 25, 3, 0, 0, 0, 0, [])), (25, (36, 26, 0, 0, 0, 0, 0, [])), (26, (24, 29, 3, 71, 0, 0, 0, [])), (29, (4, 30, 3, 0, 0, 0, 0, [])), (30, (2, 32, 5, 0, 0, 0, 0, [])), (32, (4, 33, 0, 0, 0, 0, 0, [])), (33, (4, 34, 1, 0, 0, 0, 0, [])), (34, (4, 35, 1, 0, 0, 0, 0, [])), (35, (31, 38, 5, 0, 20, 0, 0, [])), (38, (2, 40, 5, 0, 0, 0, 0, [])), (40, (37, 41, 0, 0, 0, 0, 0, [])), (41, (50, 44, 4, 3, 1, 0, 0, [0])), (44, (25, 47, 0, 54, 0, 0, 0, [])), (47, (4, 48, 2, 0, 0, 0, 0, [])), (48, (2, 50, 5, 0, 0, 0, 0, [])), (50, (37, 51, 0, 0, 0, 0, 0, [])), (51, (26, 54, 0, 55, 0, 0, 0, [])), (54, (0, 55, 0, 0, 0, 0, 0, [])), (55, (42, 56, 0, 0, 0, 0, 0, [])), (56, (2, 58, 4, 0, 0, 0, 0, [])), (58, (4, 59, 3, 0, 0, 0, 0, [])), (59, (2, 61, 5, 0, 0, 0, 0, [])), (61, (37, 62, 0, 0, 0, 0, 0, [])), (62, (9, 63, 0, 0, 0, 0, 0, [])), (63, (5, 65, 4, 0, 0, 0, 0, [])), (65, (8, 68, 5, 0, 0, 1, 0, [])), (68, (26, 71, 0, 6, 0, 0, 0, [])), (71, (2, 73, 4, 0, 0, 0, 0, [])), (73, (53, 74, 0, 0, 0, 0, 0, []))], [(6, []), (55, [])])
def tx_Mark_new : Tx := ([(0, (4, 1, 0, 0, 0, 0, 0, [])), (1, (51, 4, 0, 0, 0, 0, 0, [])), (4, (4, 5, 0, 0, 0, 0, 0, [])), (5, (49, 8, 0, 6, 0, 0, 0, [])), (8, (22, 9, 0, 0, 0, 0, 0, [])), (9, (50, 12, 0, 1, 0, 0, 0, [])), (12, (35, 15, 1, 0, 0, 0, 0, [])), (15, (4, 16, 0, 0, 0, 0, 0, [])), (16, (0, 18, 0, 0, 0, 41, 0, [])), (18, (47, 20, 20, 0, 0, 0, 0, [])), (20, (35, 23, 1, 1, 20, 0, 0, [])), (23, (55, 24, 0, 0, 0, 0, 0, []))], [])
def tx_Mood_new : Tx := ([(0, (4, 1, 0, 0, 0, 0, 0, [])), (1, (51, 4, 0, 0, 0, 0, 0, [])), (4, (4, 5, 0, 0, 0, 0, 0, [])), (5, (0, 8, 0, 0, 0, 1000, 0, [])), (8, (47, 10, 20, 0, 0, 0, 0, [])), (10, (35, 13, 2, 0, 20, 0, 0, [])), (13, (4, 14, 0, 0, 0, 0, 0, [])), (14, (0, 16, 0, 0, 0, 32, 0, [])), (16, (47, 18, 20, 0, 0, 0, 0, [])), (18, (35, 21, 2, 1, 20, 0, 0, [])), (21, (55, 22, 0, 0, 0, 0, 0, []))], [])
def tx_Mood_add : Tx := ([(0, (4, 1, 0, 0, 0, 0, 0, [])), (1, (29, 4, 2, 2, 0, 0, 0, [])), (4, (4, 5, 0, 0, 0, 0, 0, [])), (5, (31, 8, 2, 0, 20, 0, 0, [])), (8, (36, 9, 0, 0, 0, 0, 0, [])), (9, (24, 12, 3, 32, 0, 0, 0, [])), (12, (4, 13, 0, 0, 0, 0, 0, [])), (13, (31, 16, 2, 0, 20, 0, 0, [])), (16, (4, 17, 0, 0, 0, 0, 0, [])), (17, (29, 20, 2, 2, 0, 0, 0, [])), (20, (2, 21, 1, 0, 0, 0, 0, [])), (21, (42, 22, 0, 0, 0, 0, 0, [])), (22, (4, 23, 0, 0, 0, 0, 0, [])), (23, (22, 24, 0, 0, 0, 0, 0, [])), (24, (29, 27, 2, 2, 0, 0, 0, [])), (27, (0, 28, 0, 0, 0, 1, 0, [])), (28, (9, 29, 0, 0, 0, 0, 0, [])), (29, (32, 32, 2, 2, 0, 0, 0, [])), (32, (55, 33, 0, 0, 0, 0, 0, []))], [])
def tx_Mood_of : Tx := ([(0, (4, 1, 0, 0, 0, 0, 0, [])), (1, (29, 4, 2, 2, 0, 0, 0, [])), (4, (25, 7, 1, 9, 0, 0, 0, [])), (7, (0, 8, 0, 0, 0, 1, 0, [])), (8, (53, 9, 0, 0, 0, 0, 0, [])), (9, (0, 10, 0, 0, 0, 0, 0, [])), (10, (5, 12, 5, 0, 0, 0, 0, [])), (12, (0, 13, 0, 0, 0, 0, 0, [])), (13, (5, 15, 6, 0, 0, 0, 0, [])), (15, (2, 17, 6, 0, 0, 0, 0, [])), (17, (4, 18, 0, 0, 0, 0, 0, [])), (18, (29, 21, 2, 2, 0, 0, 0, [])), (21, (24, 24, 3, 176, 0, 0, 0, [])), (24, (2, 26, 6, 0, 0, 0, 0, [])), (26, (4, 27, 0, 0, 0, 0, 0, [])), (27, (31, 30, 2, 0, 20, 0, 0, [])), (30, (36, 31, 0, 0, 0, 0, 0, [])), (31, (24, 34, 3, 176, 0, 0, 0, [])), (34, (4, 35, 0, 0, 0, 0, 0, [])), (35, (31, 38, 2, 0, 20, 0, 0, [])), (38, (2, 40, 6, 0, 0, 0, 0, [])), (40, (37, 41, 0, 0, 0, 0, 0, [])), (41, (5, 43, 7, 0, 0, 0, 0, [])), (43, (2, 45, 7, 0, 0, 0, 0, [])), (45, (0, 47, 0, 0, 0, -5, 0, [])), (47, (24, 50, 5, 85, 0, 0, 0, [])), (50, (2, 52, 5, 0, 0, 0, 0, [])), (52, (4, 53, 0, 0, 0, 0, 0, [])), (53, (31, 56, 2, 1, 20, 0, 0, [])), (56, (36, 57, 0, 0, 0, 0, 0, [])), (57, (24, 60, 2, 62, 0, 0, 0, [])), (60, (0, 61, 0, 0, 0, 0, 0, [])), (61, (53, 62, 0, 0, 0, 0, 0, [])), (62, (4, 63, 0, 0, 0, 0, 0, [])), (63, (31, 66, 2, 1, 20, 0, 0, [])), (66, (2, 68, 5, 0, 0, 0, 0, [])), (68, (2, 70, 7, 0, 0, 0, 0, [])), (70, (2, 71, 1, 0, 0, 0, 0, [])), (71, (2, 72, 2, 0, 0, 0, 0, [])), (72, (2, 73, 3, 0, 0, 0, 0, [])), (73, (2, 75, 4, 0, 0, 0, 0, [])), (75, (50, 78, 14, 5, 1, 0, 0, [])), (78, (42, 79, 0, 0, 0, 0, 0, [])), (79, (8, 82, 5, 0, 0, 1, 0, [])), (82, (26, 85, 0, 170, 0, 0, 0, [])), (85, (2, 87, 7, 0, 0, 0, 0, [])), (87, (0, 89, 0, 0, 0, -5, 0, [])), (89, (24, 92, 1, 129, 0, 0, 0, [])), (92, (2, 94, 5, 0, 0, 0, 0, [])), (94, (0, 95, 0, 0, 0, 1, 0, [])), (95, (24, 98, 3, 100, 0, 0, 0, [])), (98, (0, 99, 0, 0, 0, 0, 0, [])), (99, (53, 100, 0, 0, 0, 0, 0, [])), (100, (4, 101, 0, 0, 0, 0, 0, [])), (101, (31, 104, 2, 1, 20, 0, 0, [])), (104, (2, 106, 5, 0, 0, 0, 0, [])), (106, (0, 107, 0, 0, 0, 1, 0, [])), (107, (9, 108, 1, 0, 0, 0, 0, [])), (108, (4, 109, 0, 0, 0, 0, 0, [])), (109, (31, 112, 2, 1, 20, 0, 0, [])), (112, (2, 114, 5, 0, 0, 0, 0, [])), (114, (0, 115, 0, 0, 0, 1, 0, [])), (115, (9, 116, 1, 0, 0, 0, 0, [])), (116, (37, 117, 0, 0, 0, 0, 0, [])), (117, (25, 120, 1, 124, 0, 0, 0, [])), (120, (0, 121, 0, 0, 0, 1, 0, [])), (121, (26, 124, 0, 125, 0, 0, 0, [])), (124, (0, 125, 0, 0, 0, 0, 0, [])), (125, (42, 126, 0, 0, 0, 0, 0, [])), (126, (26, 129, 0, 170, 0, 0, 0, [])), (129, (2, 131, 5, 0, 0, 0, 0, [])), (131, (0, 132, 0, 0, 0, 2, 0, [])), (132, (24, 135, 3, 137, 0, 0, 0, [])), (135, (0, 136, 0, 0, 0, 0, 0, [])), (136, (53, 137, 0, 0, 0, 0, 0, [])), (137, (8, 140, 5, 0, 0, -1, 0, [])), (140, (4, 141, 0, 0, 0, 0, 0, [])), (141, (31, 144, 2, 1, 20, 0, 0, [])), (144, (2, 146, 5, 0, 0, 0, 0, [])), (146, (0, 147, 0, 0, 0, 1, 0, [])), (147, (9, 148, 1, 0, 0, 0, 0, [])), (148, (2, 150, 7, 0, 0, 0, 0, [])), (150, (4, 151, 0, 0, 0, 0, 0, [])), (151, (31, 154, 2, 1, 20, 0, 0, [])), (154, (2, 156, 5, 0, 0, 0, 0, [])), (156, (0, 157, 0, 0, 0, 1, 0, [])), (157, (9, 158, 1, 0, 0, 0, 0, [])), (158, (37, 159, 0, 0, 0, 0, 0, [])), (159, (4, 160, 0, 0, 0, 0, 0, [])), (160, (31, 163, 2, 1, 20, 0, 0, [])), (163, (2, 165, 5, 0, 0, 0, 0, [])), (165, (37, 166, 0, 0, 0, 0, 0, [])), (166, (50, 169, 15, 3, 1, 0, 0, [])), (169, (42, 170, 0, 0, 0, 0, 0, [])), (170, (8, 173, 6, 0, 0, 1, 0, [])), (173, (26, 176, 0, 15, 0, 0, 0, [])), (176, (4, 177, 0, 0, 0, 0, 0, [])), (177, (31, 180, 2, 1, 20, 0, 0, [])), (180, (0, 181, 0, 0, 0, 0, 0, [])), (181, (37, 182, 0, 0, 0, 0, 0, [])), (182, (53, 183, 0, 0, 0, 0, 0, []))], [(15, [7]), (85, []), (92, [7])])
def tx_Mood_fact : Tx := ([(0, (2, 1, 0, 0, 0, 0, 0, [])), (1, (27, 32, 0, 41, 0, -4, 0, [38, 36, 34, 32])), (32, (2, 33, 1, 0, 0, 0, 0, [])), (33, (53, 34, 0, 0, 0, 0, 0, [])), (34, (2, 35, 2, 0, 0, 0, 0, [])), (35, (53, 36, 0, 0, 0, 0, 0, [])), (36, (2, 37, 3, 0, 0, 0, 0, [])), (37, (53, 38, 0, 0, 0, 0, 0, [])), (38, (2, 40, 4, 0, 0, 0, 0, [])), (40, (53, 41, 0, 0, 0, 0, 0, [])), (41, (2, 42, 0, 0, 0, 0, 0, [])), (42, (53, 43, 0, 0, 0, 0, 0, []))], [])
def tx_Mood_joined : Tx := ([(0, (2, 1, 0, 0, 0, 0, 0, [])), (1, (27, 40, 0, 88, 0, -11, 0, [74, 63, 52, 48, 44, 40])), (40, (2, 41, 1, 0, 0, 0, 0, [])), (41, (2, 42, 2, 0, 0, 0, 0, [])), (42, (9, 43, 0, 0, 0, 0, 0, [])), (43, (53, 44, 0, 0, 0, 0, 0, [])), (44, (2, 45, 1, 0, 0, 0, 0, [])), (45, (2, 46, 2, 0, 0, 0, 0, [])), (46, (9, 47, 1, 0, 0, 0, 0, [])), (47, (53, 48, 0, 0, 0, 0, 0, [])), (48, (2, 49, 1, 0, 0, 0, 0, [])), (49, (2, 50, 2, 0, 0, 0, 0, [])), (50, (9, 51, 2, 0, 0, 0, 0, [])), (51, (53, 52, 0, 0, 0, 0, 0, [])), (52, (2, 53, 1, 0, 0, 0, 0, [])), (53, (2, 54, 2, 0, 0, 0, 0, [])), (54, (24, 57, 3, 61, 0, 0, 0, [])), (57, (0, 58, 0, 0, 0, 1, 0, [])), (58, (26, 61, 0, 62, 0, 0, 0, [])), (61, (0, 62, 0, 0, 0, 0, 0, [])), (62, (53, 63, 0, 0, 0, 0, 0, [])), (63, (2, 64, 1, 0, 0, 0, 0, [])), (64, (2, 65, 2, 0, 0, 0, 0, [])), (65, (24, 68, 1, 72, 0, 0, 0, [])), (68, (0, 69, 0, 0, 0, 1, 0, [])), (69, (26, 72, 0, 73, 0, 0, 0, [])), (72, (0, 73, 0, 0, 0, 0, 0, [])), (73, (53, 74, 0, 0, 0, 0, 0, [])), (74, (2, 75, 1, 0, 0, 0, 0, [])), (75, (25, 78, 0, 86, 0, 0, 0, [])), (78, (2, 79, 2, 0, 0, 0, 0, [])), (79, (25, 82, 0, 86, 0, 0, 0, [])), (82, (0, 83, 0, 0, 0, 1, 0, [])), (83, (26, 86, 0, 87, 0, 0, 0, [])), (86, (0, 87, 0, 0, 0, 0, 0, [])), (87, (53, 88, 0, 0, 0, 0, 0, [])), (88, (2, 89, 1, 0, 0, 0, 0, [])), (89, (25, 92, 1, 96, 0, 0, 0, [])), (92, (2, 93, 2, 0, 0, 0, 0, [])), (93, (25, 96, 0, 100, 0, 0, 0, [])), (96, (0, 97, 0, 0, 0, 1, 0, [])), (97, (26, 100, 0, 101, 0, 0, 0, [])), (100, (0, 101, 0, 0, 0, 0, 0, [])), (101, (53, 102, 0, 0, 0, 0, 0, []))], [(74, [0]), (88, [0])])
def tx_Pair_new : Tx := ([(0, (4, 1, 0, 0, 0, 0, 0, [])), (1, (51, 4, 0, 0, 0, 0, 0, [])), (4, (4, 5, 0, 0, 0, 0, 0, [])), (5, (0, 6, 0, 0, 0, 0, 0, [])), (6, (47, 8, 21, 0, 0, 0, 0, [])), (8, (35, 11, 3, 0, 21, 0, 0, [])), (11, (55, 12, 0, 0, 0, 0, 0, []))], [])
def tx_Pair_pairs : Tx := ([(0, (4, 1, 1, 0, 0, 0, 0, [])), (1, (29, 4, 5, 7, 0, 0, 0, [])), (4, (0, 6, 0, 0, 0, 24, 0, [])), (6, (24, 9, 5, 13, 0, 0, 0, [])), (9, (1, 12, 21, 0, 0, 0, -1, [])), (12, (54, 13, 0, 0, 0, 0, 0, [])), (13, (4, 14, 0, 0, 0, 0, 0, [])), (14, (31, 17, 3, 0, 21, 0, 0, [])), (17, (36, 18, 0, 0, 0, 0, 0, [])), (18, (25, 21, 1, 30, 0, 0, 0, [])), (21, (4, 22, 0, 0, 0, 0, 0, [])), (22, (0, 25, 0, 0, 0, 625, 0, [])), (25, (47, 27, 21, 0, 0, 0, 0, [])), (27, (35, 30, 3, 0, 21, 0, 0, [])), (30, (0, 31, 0, 0, 0, 0, 0, [])), (31, (5, 32, 2, 0, 0, 0, 0, [])), (32, (2, 33, 2, 0, 0, 0, 0, [])), (33, (4, 34, 0, 0, 0, 0, 0, [])), (34, (31, 37, 3, 0, 21, 0, 0, [])), (37, (36, 38, 0, 0, 0, 0, 0, [])), (38, (24, 41, 3, 54, 0, 0, 0, [])), (41, (4, 42, 0, 0, 0, 0, 0, [])), (42, (31, 45, 3, 0, 21, 0, 0, [])), (45, (2, 46, 2, 0, 0, 0, 0, [])), (46, (1, 47, 0, 0, 0, 0, 0, [])), (47, (43, 48, 0, 0, 0, 0, 0, [])), (48, (8, 51, 2, 0, 0, 1, 0, [])), (51, (26, 54, 0, 32, 0, 0, 0, [])), (54, (4, 55, 0, 0, 0, 0, 0, [])), (55, (31, 58, 3, 0, 21, 0, 0, [])), (58, (4, 59, 1, 0, 0, 0, 0, [])), (59, (29, 62, 5, 7, 0, 0, 0, [])), (62, (1, 63, 0, 0, 0, 0, 1, [])), (63, (43, 64, 0, 0, 0, 0, 0, [])), (64, (0, 65, 0, 0, 0, 0, 0, [])), (65, (5, 66, 2, 0, 0, 0, 0, [])), (66, (2, 67, 2, 0, 0, 0, 0, [])), (67, (4, 68, 1, 0, 0, 0, 0, [])), (68, (29, 71, 5, 7, 0, 0, 0, [])), (71, (24, 74, 4, 102, 0, 0, 0, [])), (74, (4, 75, 1, 0, 0, 0, 0, [])), (75, (29, 78, 5, 7, 0, 0, 0, [])), (78, (5, 79, 3, 0, 0, 0, 0, [])), (79, (2, 80, 3, 0, 0, 0, 0, [])), (80, (25, 83, 2, 96, 0, 0, 0, [])), (83, (4, 84, 0, 0, 0, 0, 0, [])), (84, (4, 85, 1, 0, 0, 0, 0, [])), (85, (2, 86, 2, 0, 0, 0, 0, [])), (86, (2, 87, 3, 0, 0, 0, 0, [])), (87, (50, 90, 18, 4, 0, 0, 0, [3])), (90, (8, 93, 3, 0, 0, -1, 0, [])), (93, (26, 96, 0, 79, 0, 0, 0, [])), (96, (8, 99, 2, 0, 0, 1, 0, [])), (99, (26, 102, 0, 66, 0, 0, 0, [])), (102, (4, 103, 0, 0, 0, 0, 0, [])), (103, (31, 106, 3, 0, 21, 0, 0, [])), (106, (4, 107, 1, 0, 0, 0, 0, [])), (107, (29, 110, 5, 7, 0, 0, 0, [])), (110, (0, 112, 0, 0, 0, 25, 0, [])), (112, (9, 113, 2, 0, 0, 0, 0, [])), (113, (38, 114, 0, 0, 0, 0, 0, [])), (114, (54, 115, 0, 0, 0, 0, 0, []))], [(32, [3]), (66, [3]), (79, [])])
def tx_Pair_beat : Tx := ([(0, (4, 1, 0, 0, 0, 0, 0, [])), (1, (31, 4, 3, 0, 21, 0, 0, [])), (4, (2, 5, 2, 0, 0, 0, 0, [])), (5, (0, 7, 0, 0, 0, 25, 0, [])), (7, (9, 8, 2, 0, 0, 0, 0, [])), (8, (2, 9, 3, 0, 0, 0, 0, [])), (9, (9, 10, 0, 0, 0, 0, 0, [])), (10, (38, 11, 0, 0, 0, 0, 0, [])), (11, (6, 13, 4, 0, 0, 0, 0, [])), (13, (3, 15, 4, 0, 0, 0, 0, [])), (15, (1, 16, 0, 0, 0, 0, 0, [])), (16, (21, 17, 0, 0, 0, 0, 0, [])), (17, (25, 20, 0, 32, 0, 0, 0, [])), (20, (2, 21, 2, 0, 0, 0, 0, [])), (21, (4, 22, 1, 0, 0, 0, 0, [])), (22, (29, 25, 5, 7, 0, 0, 0, [])), (25, (24, 28, 1, 33, 0, 0, 0, [])), (28, (2, 29, 3, 0, 0, 0, 0, [])), (29, (25, 32, 1, 33, 0, 0, 0, [])), (32, (55, 33, 0, 0, 0, 0, 0, [])), (33, (0, 34, 0, 0, 0, 0, 0, [])), (34, (5, 36, 6, 0, 0, 0, 0, [])), (36, (2, 38, 6, 0, 0, 0, 0, [])), (38, (4, 39, 1, 0, 0, 0, 0, [])), (39, (29, 42, 5, 8, 0, 0, 0, [])), (42, (24, 45, 3, 129, 0, 0, 0, [])), (45, (4, 46, 1, 0, 0, 0, 0, [])), (46, (2, 47, 2, 0, 0, 0, 0, [])), (47, (2, 49, 6, 0, 0, 0, 0, [])), (49, (4, 50, 1, 0, 0, 0, 0, [])), (50, (29, 53, 5, 7, 0, 0, 0, [])), (53, (50, 56, 19, 4, 1, 0, 0, [])), (56, (5, 58, 7, 0, 0, 0, 0, [])), (58, (0, 59, 0, 0, 0, 0, 0, [])), (59, (5, 61, 8, 0, 0, 0, 0, [])), (61, (2, 63, 8, 0, 0, 0, 0, [])), (63, (4, 64, 1, 0, 0, 0, 0, [])), (64, (29, 67, 5, 8, 0, 0, 0, [])), (67, (24, 70, 3, 123, 0, 0, 0, [])), (70, (2, 72, 7, 0, 0, 0, 0, [])), (72, (0, 73, 0, 0, 0, -1, 0, [])), (73, (24, 76, 0, 123, 0, 0, 0, [])), (76, (4, 77, 1, 0, 0, 0, 0, [])), (77, (2, 78, 3, 0, 0, 0, 0, [])), (78, (2, 80, 8, 0, 0, 0, 0, [])), (80, (0, 81, 0, 0, 0, 0, 0, [])), (81, (50, 84, 19, 4, 1, 0, 0, [])), (84, (5, 86, 9, 0, 0, 0, 0, [])), (86, (2, 88, 9, 0, 0, 0, 0, [])), (88, (0, 89, 0, 0, 0, -1, 0, [])), (89, (24, 92, 0, 117, 0, 0, 0, [])), (92, (2, 94, 9, 0, 0, 0, 0, [])), (94, (2, 96, 7, 0, 0, 0, 0, [])), (96, (24, 99, 0, 117, 0, 0, 0, [])), (99, (4, 100, 0, 0, 0, 0, 0, [])), (100, (31, 103, 3, 0, 21, 0, 0, [])), (103, (2, 105, 7, 0, 0, 0, 0, [])), (105, (0, 107, 0, 0, 0, 25, 0, [])), (107, (9, 108, 2, 0, 0, 0, 0, [])), (108, (2, 110, 9, 0, 0, 0, 0, [])), (110, (9, 111, 0, 0, 0, 0, 0, [])), (111, (23, 112, 0, 0, 0, 0, 0, [])), (112, (38, 113, 0, 0, 0, 0, 0, [])), (113, (3, 115, 4, 0, 0, 0, 0, [])), (115, (13, 116, 0, 0, 0, 0, 0, [])), (116, (43, 117, 0, 0, 0, 0, 0, [])), (117, (8, 120, 8, 0, 0, 1, 0, [])), (120, (26, 123, 0, 61, 0, 0, 0, [])), (123, (8, 126, 6, 0, 0, 1, 0, [])), (126, (26, 129, 0, 36, 0, 0, 0, [])), (129, (55, 130, 0, 0, 0, 0, 0, []))], [(36, [5, 7, 8, 9]), (61, [5, 9])])
def tx_Pair_moved : Tx := ([(0, (2, 1, 1, 0, 0, 0, 0, [])), (1, (2, 2, 3, 0, 0, 0, 0, [])), (2, (24, 5, 1, 15, 0, 0, 0, [])), (5, (2, 6, 2, 0, 0, 0, 0, [])), (6, (25, 9, 1, 13, 0, 0, 0, [])), (9, (2, 10, 1, 0, 0, 0, 0, [])), (10, (26, 13, 0, 14, 0, 0, 0, [])), (13, (0, 14, 0, 0, 0, -1, 0, [])), (14, (53, 15, 0, 0, 0, 0, 0, [])), (15, (2, 16, 3, 0, 0, 0, 0, [])), (16, (25, 19, 1, 30, 0, 0, 0, [])), (19, (2, 20, 1, 0, 0, 0, 0, [])), (20, (4, 21, 0, 0, 0, 0, 0, [])), (21, (31, 24, 5, 0, 20, 0, 0, [])), (24, (2, 25, 2, 0, 0, 0, 0, [])), (25, (37, 26, 0, 0, 0, 0, 0, [])), (26, (9, 27, 1, 0, 0, 0, 0, [])), (27, (26, 30, 0, 38, 0, 0, 0, [])), (30, (2, 31, 1, 0, 0, 0, 0, [])), (31, (4, 32, 0, 0, 0, 0, 0, [])), (32, (31, 35, 5, 0, 20, 0, 0, [])), (35, (2, 36, 2, 0, 0, 0, 0, [])), (36, (37, 37, 0, 0, 0, 0, 0, [])), (37, (9, 38, 0, 0, 0, 0, 0, [])), (38, (5, 40, 4, 0, 0, 0, 0, [])), (40, (2, 42, 4, 0, 0, 0, 0, [])), (42, (25, 45, 2, 65, 0, 0, 0, [])), (45, (2, 47, 4, 0, 0, 0, 0, [])), (47, (4, 48, 0, 0, 0, 0, 0, [])), (48, (29, 51, 5, 7, 0, 0, 0, [])), (51, (24, 54, 4, 65, 0, 0, 0, [])), (54, (4, 55, 0, 0, 0, 0, 0, [])), (55, (31, 58, 5, 2, 20, 0, 0, [])), (58, (2, 60, 4, 0, 0, 0, 0, [])), (60, (37, 61, 0, 0, 0, 0, 0, [])), (61, (0, 62, 0, 0, 0, 1, 0, [])), (62, (24, 65, 1, 67, 0, 0, 0, [])), (65, (0, 66, 0, 0, 0, -1, 0, [])), (66, (53, 67, 0, 0, 0, 0, 0, [])), (67, (2, 69, 4, 0, 0, 0, 0, [])), (69, (53, 70, 0, 0, 0, 0, 0, []))], [(38, [1, 2, 3, 4])])
def tx_Rests_new : Tx := ([(0, (4, 1, 0, 0, 0, 0, 0, [])), (1, (51, 4, 0, 0, 0, 0, 0, [])), (4, (4, 5, 0, 0, 0, 0, 0, [])), (5, (0, 7, 0, 0, 0, 12, 0, [])), (7, (47, 9, 21, 0, 0, 0, 0, [])), (9, (35, 12, 4, 0, 21, 0, 0, [])), (12, (4, 13, 0, 0, 0, 0, 0, [])), (13, (0, 15, 0, 0, 0, 12, 0, [])), (15, (47, 17, 21, 0, 0, 0, 0, [])), (17, (35, 20, 4, 1, 21, 0, 0, [])), (20, (4, 21, 0, 0, 0, 0, 0, [])), (21, (0, 23, 0, 0, 0, 24, 0, [])), (23, (47, 25, 21, 0, 0, 0, 0, [])), (25, (35, 28, 4, 2, 21, 0, 0, [])), (28, (55, 29, 0, 0, 0, 0, 0, []))], [])
def tx_Rests_rest : Tx := ([(0, (2, 1, 3, 0, 0, 0, 0, [])), (1, (0, 2, 0, 0, 0, 1, 0, [])), (2, (24, 5, 3, 7, 0, 0, 0, [])), (5, (0, 6, 0, 0, 0, 0, 0, [])), (6, (53, 7, 0, 0, 0, 0, 0, [])), (7, (4, 8, 0, 0, 0, 0, 0, [])), (8, (4, 9, 1, 0, 0, 0, 0, [])), (9, (2, 10, 3, 0, 0, 0, 0, [])), (10, (50, 13, 22, 3, 0, 0, 0, [4])), (13, (0, 14, 0, 0, 0, 0, 0, [])), (14, (5, 16, 4, 0, 0, 0, 0, [])), (16, (2, 18, 4, 0, 0, 0, 0, [])), (18, (4, 19, 0, 0, 0, 0, 0, [])), (19, (31, 22, 4, 1, 21, 0, 0, [])), (22, (36, 23, 0, 0, 0, 0, 0, [])), (23, (24, 26, 3, 52, 0, 0, 0, [])), (26, (4, 27, 0, 0, 0, 0, 0, [])), (27, (31, 30, 4, 1, 21, 0, 0, [])), (30, (2, 32, 4, 0, 0, 0, 0, [])), (32, (2, 34, 4, 0, 0, 0, 0, [])), (34, (25, 37, 1, 44, 0, 0, 0, [])), (37, (0, 38, 0, 0, 0, 1, 0, [])), (38, (2, 39, 3, 0, 0, 0, 0, [])), (39, (11, 40, 0, 0, 0, 0, 0, [])), (40, (18, 41, 0, 0, 0, 0, 0, [])), (41, (26, 44, 0, 45, 0, 0, 0, [])), (44, (1, 45, 0, 0, 0, 0, 0, [])), (45, (43, 46, 0, 0, 0, 0, 0, [])), (46, (8, 49, 4, 0, 0, 1, 0, [])), (49, (26, 52, 0, 16, 0, 0, 0, [])), (52, (0, 54, 0, 0, 0, 29, 0, [])), (54, (5, 56, 4, 0, 0, 0, 0, [])), (56, (2, 58, 4, 0, 0, 0, 0, [])), (58, (25, 61, 2, 79, 0, 0, 0, [])), (61, (4, 62, 0, 0, 0, 0, 0, [])), (62, (4, 63, 1, 0, 0, 0, 0, [])), (63, (2, 64, 3, 0, 0, 0, 0, [])), (64, (2, 65, 2, 0, 0, 0, 0, [])), (65, (2, 67, 4, 0, 0, 0, 0, [])), (67, (9, 68, 7, 0, 0, 0, 0, [])), (68, (0, 69, 0, 0, 0, 1, 0, [])), (69, (9, 70, 3, 0, 0, 0, 0, [])), (70, (50, 73, 23, 4, 0, 0, 0, [4])), (73, (8, 76, 4, 0, 0, -1, 0, [])), (76, (26, 79, 0, 56, 0, 0, 0, [])), (79, (1, 80, 0, 0, 0, 0, 0, [])), (80, (6, 82, 4, 0, 0, 0, 0, [])), (82, (0, 83, 0, 0, 0, 0, 0, [])), (83, (5, 85, 6, 0, 0, 0, 0, [])), (85, (2, 87, 6, 0, 0, 0, 0, [])), (87, (4, 88, 1, 0, 0, 0, 0, [])), (88, (50, 91, 32, 1, 1, 0, 0, [5])), (91, (24, 94, 3, 130, 0, 0, 0, [])), (94, (2, 96, 6, 0, 0, 0, 0, [])), (96, (4, 97, 0, 0, 0, 0, 0, [])), (97, (31, 100, 4, 1, 21, 0, 0, [])), (100, (36, 101, 0, 0, 0, 0, 0, [])), (101, (24, 104, 3, 130, 0, 0, 0, [])), (104, (3, 106, 4, 0, 0, 0, 0, [])), (106, (4, 107, 0, 0, 0, 0, 0, [])), (107, (31, 110, 4, 1, 21, 0, 0, [])), (110, (2, 112, 6, 0, 0, 0, 0, [])), (112, (38, 113, 0, 0, 0, 0, 0, [])), (113, (4, 114, 0, 0, 0, 0, 0, [])), (114, (31, 117, 4, 0, 21, 0, 0, [])), (117, (2, 119, 6, 0, 0, 0, 0, [])), (119, (38, 120, 0, 0, 0, 0, 0, [])), (120, (13, 121, 2, 0, 0, 0, 0, [])), (121, (13, 122, 0, 0, 0, 0, 0, [])), (122, (6, 124, 4, 0, 0, 0, 0, [])), (124, (8, 127, 6, 0, 0, 1, 0, [])), (127, (26, 130, 0, 85, 0, 0, 0, [])), (130, (3, 132, 4, 0, 0, 0, 0, [])), (132, (2, 133, 3, 0, 0, 0, 0, [])), (133, (18, 134, 0, 0, 0, 0, 0, [])), (134, (17, 135, 0, 0, 0, 0, 0, [])), (135, (19, 136, 0, 0, 0, 0, 0, [])), (136, (53, 137, 0, 0, 0, 0, 0, []))], [(16, [5, 6]), (56, [5, 6]), (85, [2, 5])])
def tx_Rests_findFirst : Tx := ([(0, (0, 1, 0, 0, 0, 0, 0, [])), (1, (5, 2, 3, 0, 0, 0, 0, [])), (2, (2, 3, 3, 0, 0, 0, 0, [])), (3, (4, 4, 0, 0, 0, 0, 0, [])), (4, (31, 7, 4, 0, 21, 0, 0, [])), (7, (36, 8, 0, 0, 0, 0, 0, [])), (8, (24, 11, 3, 97, 0, 0, 0, [])), (11, (4, 12, 0, 0, 0, 0, 0, [])), (12, (31, 15, 4, 0, 21, 0, 0, [])), (15, (2, 16, 3, 0, 0, 0, 0, [])), (16, (2, 17, 3, 0, 0, 0, 0, [])), (17, (25, 20, 1, 24, 0, 0, 0, [])), (20, (1, 21, 0, 0, 0, 0, 1, [])), (21, (26, 24, 0, 25, 0, 0, 0, [])), (24, (1, 25, 0, 0, 0, 0, 0, [])), (25, (43, 26, 0, 0, 0, 0, 0, [])), (26, (0, 27, 0, 0, 0, 0, 0, [])), (27, (5, 29, 4, 0, 0, 0, 0, [])), (29, (2, 31, 4, 0, 0, 0, 0, [])), (31, (4, 32, 1, 0, 0, 0, 0, [])), (32, (29, 35, 5, 8, 0, 0, 0, [])), (35, (24, 38, 3, 80, 0, 0, 0, [])), (38, (2, 39, 3, 0, 0, 0, 0, [])), (39, (4, 40, 1, 0, 0, 0, 0, [])), (40, (31, 43, 5, 0, 20, 0, 0, [])), (43, (2, 45, 4, 0, 0, 0, 0, [])), (45, (37, 46, 0, 0, 0, 0, 0, [])), (46, (9, 47, 1, 0, 0, 0, 0, [])), (47, (5, 49, 5, 0, 0, 0, 0, [])), (49, (4, 50, 0, 0, 0, 0, 0, [])), (50, (31, 53, 4, 0, 21, 0, 0, [])), (53, (2, 54, 3, 0, 0, 0, 0, [])), (54, (23, 55, 0, 0, 0, 0, 0, [])), (55, (38, 56, 0, 0, 0, 0, 0, [])), (56, (2, 58, 5, 0, 0, 0, 0, [])), (58, (25, 61, 2, 71, 0, 0, 0, [])), (61, (4, 62, 0, 0, 0, 0, 0, [])), (62, (31, 65, 4, 0, 21, 0, 0, [])), (65, (2, 67, 5, 0, 0, 0, 0, [])), (67, (38, 68, 0, 0, 0, 0, 0, [])), (68, (26, 71, 0, 72, 0, 0, 0, [])), (71, (1, 72, 0, 0, 0, 0, 0, [])), (72, (13, 73, 0, 0, 0, 0, 0, [])), (73, (43, 74, 0, 0, 0, 0, 0, [])), (74, (8, 77, 4, 0, 0, 1, 0, [])), (77, (26, 80, 0, 29, 0, 0, 0, [])), (80, (4, 81, 0, 0, 0, 0, 0, [])), (81, (31, 84, 4, 0, 21, 0, 0, [])), (84, (2, 85, 3, 0, 0, 0, 0, [])), (85, (23, 86, 0, 0, 0, 0, 0, [])), (86, (38, 87, 0, 0, 0, 0, 0, [])), (87, (2, 88, 2, 0, 0, 0, 0, [])), (88, (18, 89, 0, 0, 0, 0, 0, [])), (89, (17, 90, 0, 0, 0, 0, 0, [])), (90, (43, 91, 0, 0, 0, 0, 0, [])), (91, (8, 94, 3, 0, 0, 1, 0, [])), (94, (26, 97, 0, 2, 0, 0, 0, [])), (97, (55, 98, 0, 0, 0, 0, 0, []))], [(2, [4, 5]), (29, [5])])
def tx_Rests_square : Tx := ([(0, (4, 1, 1, 0, 0, 0, 0, [])), (1, (50, 4, 32, 1, 1, 0, 0, [5])), (4, (5, 6, 4, 0, 0, 0, 0, [])), (6, (2, 8, 4, 0, 0, 0, 0, [])), (8, (0, 10, 0, 0, 0, 12, 0, [])), (10, (24, 13, 4, 27, 0, 0, 0, [])), (13, (2, 14, 3, 0, 0, 0, 0, [])), (14, (25, 17, 2, 27, 0, 0, 0, [])), (17, (2, 18, 3, 0, 0, 0, 0, [])), (18, (0, 19, 0, 0, 0, 1, 0, [])), (19, (24, 22, 4, 27, 0, 0, 0, [])), (22, (2, 23, 2, 0, 0, 0, 0, [])), (23, (0, 24, 0, 0, 0, 1, 0, [])), (24, (24, 27, 3, 28, 0, 0, 0, [])), (27, (55, 28, 0, 0, 0, 0, 0, [])), (28, (0, 29, 0, 0, 0, 0, 0, [])), (29, (5, 31, 5, 0, 0, 0, 0, [])), (31, (2, 33, 5, 0, 0, 0, 0, [])), (33, (4, 34, 0, 0, 0, 0, 0, [])), (34, (31, 37, 4, 2, 21, 0, 0, [])), (37, (36, 38, 0, 0, 0, 0, 0, [])), (38, (24, 41, 3, 55, 0, 0, 0, [])), (41, (4, 42, 0, 0, 0, 0, 0, [])), (42, (31, 45, 4, 2, 21, 0, 0, [])), (45, (2, 47, 5, 0, 0, 0, 0, [])), (47, (1, 48, 0, 0, 0, 0, 0, [])), (48, (43, 49, 0, 0, 0, 0, 0, [])), (49, (8, 52, 5, 0, 0, 1, 0, [])), (52, (26, 55, 0, 31, 0, 0, 0, [])), (55, (0, 56, 0, 0, 0, 0, 0, [])), (56, (5, 58, 5, 0, 0, 0, 0, [])), (58, (2, 60, 5, 0, 0, 0, 0, [])), (60, (2, 62, 4, 0, 0, 0, 0, [])), (62, (24, 65, 3, 117, 0, 0, 0, [])), (65, (0, 66, 0, 0, 0, 0, 0, [])), (66, (5, 68, 6, 0, 0, 0, 0, [])), (68, (2, 70, 6, 0, 0, 0, 0, [])), (70, (2, 72, 4, 0, 0, 0, 0, [])), (72, (24, 75, 3, 111, 0, 0, 0, [])), (75, (4, 76, 0, 0, 0, 0, 0, [])), (76, (31, 79, 4, 2, 21, 0, 0, [])), (79, (2, 81, 5, 0, 0, 0, 0, [])), (81, (2, 83, 6, 0, 0, 0, 0, [])), (83, (9, 84, 0, 0, 0, 0, 0, [])), (84, (2, 85, 3, 0, 0, 0, 0, [])), (85, (9, 86, 0, 0, 0, 0, 0, [])), (86, (23, 87, 0, 0, 0, 0, 0, [])), (87, (38, 88, 0, 0, 0, 0, 0, [])), (88, (4, 89, 0, 0, 0, 0, 0, [])), (89, (31, 92, 4, 1, 21, 0, 0, [])), (92, (2, 94, 5, 0, 0, 0, 0, [])), (94, (38, 95, 0, 0, 0, 0, 0, [])), (95, (4, 96, 0, 0, 0, 0, 0, [])), (96, (31, 99, 4, 1, 21, 0, 0, [])), (99, (2, 101, 6, 0, 0, 0, 0, [])), (101, (38, 102, 0, 0, 0, 0, 0, [])), (102, (13, 103, 2, 0, 0, 0, 0, [])), (103, (13, 104, 0, 0, 0, 0, 0, [])), (104, (43, 105, 0, 0, 0, 0, 0, [])), (105, (8, 108, 6, 0, 0, 1, 0, [])), (108, (26, 111, 0, 68, 0, 0, 0, [])), (111, (8, 114, 5, 0, 0, 1, 0, [])), (114, (26, 117, 0, 58, 0, 0, 0, [])), (117, (0, 118, 0, 0, 0, 2, 0, [])), (118, (2, 120, 4, 0, 0, 0, 0, [])), (120, (9, 121, 2, 0, 0, 0, 0, [])), (121, (0, 122, 0, 0, 0, 1, 0, [])), (122, (9, 123, 1, 0, 0, 0, 0, [])), (123, (5, 125, 5, 0, 0, 0, 0, [])), (125, (2, 127, 5, 0, 0, 0, 0, [])), (127, (2, 129, 4, 0, 0, 0, 0, [])), (129, (24, 132, 2, 188, 0, 0, 0, [])), (132, (4, 133, 0, 0, 0, 0, 0, [])), (133, (31, 136, 4, 2, 21, 0, 0, [])), (136, (2, 138, 5, 0, 0, 0, 0, [])), (138, (38, 139, 0, 0, 0, 0, 0, [])), (139, (2, 140, 2, 0, 0, 0, 0, [])), (140, (18, 141, 0, 0, 0, 0, 0, [])), (141, (17, 142, 0, 0, 0, 0, 0, [])), (142, (6, 144, 6, 0, 0, 0, 0, [])), (144, (0, 145, 0, 0, 0, 0, 0, [])), (145, (5, 147, 8, 0, 0, 0, 0, [])), (147, (2, 149, 8, 0, 0, 0, 0, [])), (149, (4, 150, 1, 0, 0, 0, 0, [])), (150, (29, 153, 5, 8, 0, 0, 0, [])), (153, (24, 156, 3, 182, 0, 0, 0, [])), (156, (4, 157, 0, 0, 0, 0, 0, [])), (157, (31, 160, 4, 2, 21, 0, 0, [])), (160, (2, 162, 5, 0, 0, 0, 0, [])), (162, (4, 163, 1, 0, 0, 0, 0, [])), (163, (31, 166, 5, 0, 20, 0, 0, [])), (166, (2, 168, 8, 0, 0, 0, 0, [])), (168, (37, 169, 0, 0, 0, 0, 0, [])), (169, (9, 170, 1, 0, 0, 0, 0, [])), (170, (23, 171, 0, 0, 0, 0, 0, [])), (171, (38, 172, 0, 0, 0, 0, 0, [])), (172, (3, 174, 6, 0, 0, 0, 0, [])), (174, (13, 175, 0, 0, 0, 0, 0, [])), (175, (43, 176, 0, 0, 0, 0, 0, [])), (176, (8, 179, 8, 0, 0, 1, 0, [])), (179, (26, 182, 0, 147, 0, 0, 0, [])), (182, (8, 185, 5, 0, 0, -1, 0, [])), (185, (26, 188, 0, 125, 0, 0, 0, [])), (188, (0, 189, 0, 0, 0, 0, 0, [])), (189, (5, 191, 5, 0, 0, 0, 0, [])), (191, (2, 193, 5, 0, 0, 0, 0, [])), (193, (2, 195, 4, 0, 0, 0, 0, [])), (195, (24, 198, 3, 221, 0, 0, 0, [])), (198, (4, 199, 0, 0, 0, 0, 0, [])), (199, (31, 202, 4, 1, 21, 0, 0, [])), (202, (2, 204, 5, 0, 0, 0, 0, [])), (204, (4, 205, 0, 0, 0, 0, 0, [])), (205, (31, 208, 4, 2, 21, 0, 0, [])), (208, (2, 210, 5, 0, 0, 0, 0, [])), (210, (38, 211, 0, 0, 0, 0, 0, [])), (211, (2, 212, 2, 0, 0, 0, 0, [])), (212, (18, 213, 0, 0, 0, 0, 0, [])), (213, (17, 214, 0, 0, 0, 0, 0, [])), (214, (43, 215, 0, 0, 0, 0, 0, [])), (215, (8, 218, 5, 0, 0, 1, 0, [])), (218, (26, 221, 0, 191, 0, 0, 0, [])), (221, (55, 222, 0, 0, 0, 0, 0, []))], [(31, [6, 7, 8]), (58, [6, 7, 8]), (68, [7, 8]), (125, [3, 6, 7, 8]), (147, [3, 7]), (191, [1, 3, 6, 7, 8])])
def tx_Stair_new : Tx := ([(0, (4, 1, 0, 0, 0, 0, 0, [])), (1, (51, 4, 0, 0, 0, 0, 0, [])), (4, (4, 5, 0, 0, 0, 0, 0, [])), (5, (0, 7, 0, 0, 0, 6, 0, [])), (7, (47, 9, 20, 0, 0, 0, 0, [])), (9, (35, 12, 5, 0, 20, 0, 0, [])), (12, (4, 13, 0, 0, 0, 0, 0, [])), (13, (0, 15, 0, 0, 0, 13, 0, [])), (15, (47, 17, 20, 0, 0, 0, 0, [])), (17, (35, 20, 5, 1, 20, 0, 0, [])), (20, (4, 21, 0, 0, 0, 0, 0, [])), (21, (0, 23, 0, 0, 0, 41, 0, [])), (23, (47, 25, 20, 0, 0, 0, 0, [])), (25, (35, 28, 5, 2, 20, 0, 0, [])), (28, (4, 29, 0, 0, 0, 0, 0, [])), (29, (0, 31, 0, 0, 0, 13, 0, [])), (31, (47, 33, 20, 0, 0, 0, 0, [])), (33, (35, 36, 5, 3, 20, 0, 0, [])), (36, (4, 37, 0, 0, 0, 0, 0, [])), (37, (0, 39, 0, 0, 0, 41, 0, [])), (39, (47, 41, 20, 0, 0, 0, 0, [])), (41, (35, 44, 5, 4, 20, 0, 0, [])), (44, (4, 45, 0, 0, 0, 0, 0, [])), (45, (0, 47, 0, 0, 0, 41, 0, [])), (47, (47, 49, 20, 0, 0, 0, 0, [])), (49, (35, 52, 5, 5, 20, 0, 0, [])), (52, (4, 53, 0, 0, 0, 0, 0, [])), (53, (49, 56, 2, 3, 0, 0, 0, [])), (56, (22, 57, 0, 0, 0, 0, 0, [])), (57, (50, 60, 11, 1, 0, 0, 0, [])), (60, (35, 63, 5, 6, 2, 0, 0, [])), (63, (55, 64, 0, 0, 0, 0, 0, []))], [])
def tx_Stair_clear : Tx := ([(0, (0, 1, 0, 0, 0, 0, 0, [])), (1, (5, 2, 1, 0, 0, 0, 0, [])), (2, (2, 3, 1, 0, 0, 0, 0, [])), (3, (0, 5, 0, 0, 0, 40, 0, [])), (5, (24, 8, 4, 21, 0, 0, 0, [])), (8, (4, 9, 0, 0, 0, 0, 0, [])), (9, (31, 12, 5, 2, 20, 0, 0, [])), (12, (2, 13, 1, 0, 0, 0, 0, [])), (13, (0, 14, 0, 0, 0, 0, 0, [])), (14, (42, 15, 0, 0, 0, 0, 0, [])), (15, (8, 18, 1, 0, 0, 1, 0, [])), (18, (26, 21, 0, 2, 0, 0, 0, [])), (21, (0, 22, 0, 0, 0, 0, 0, [])), (22, (5, 23, 1, 0, 0, 0, 0, [])), (23, (2, 24, 1, 0, 0, 0, 0, [])), (24, (0, 26, 0, 0, 0, 12, 0, [])), (26, (24, 29, 4, 42, 0, 0, 0, [])), (29, (4, 30, 0, 0, 0, 0, 0, [])), (30, (31, 33, 5, 3, 20, 0, 0, [])), (33, (2, 34, 1, 0, 0, 0, 0, [])), (34, (0, 35, 0, 0, 0, 0, 0, [])), (35, (42, 36, 0, 0, 0, 0, 0, [])), (36, (8, 39, 1, 0, 0, 1, 0, [])), (39, (26, 42, 0, 23, 0, 0, 0, [])), (42, (4, 43, 0, 0, 0, 0, 0, [])), (43, (31, 46, 5, 6, 2, 0, 0, [])), (46, (0, 47, 0, 0, 0, 0, 0, [])), (47, (32, 50, 2, 2, 0, 0, 0, [])), (50, (4, 51, 0, 0, 0, 0, 0, [])), (51, (0, 52, 0, 0, 0, 1, 0, [])), (52, (32, 55, 5, 7, 0, 0, 0, [])), (55, (4, 56, 0, 0, 0, 0, 0, [])), (56, (0, 57, 0, 0, 0, 0, 0, [])), (57, (32, 60, 5, 8, 0, 0, 0, [])), (60, (4, 61, 0, 0, 0, 0, 0, [])), (61, (0, 62, 0, 0, 0, 0, 0, [])), (62, (32, 65, 5, 9, 0, 0, 0, [])), (65, (4, 66, 0, 0, 0, 0, 0, [])), (66, (0, 67, 0, 0, 0, -1, 0, [])), (67, (32, 70, 5, 10, 0, 0, 0, [])), (70, (4, 71, 0, 0, 0, 0, 0, [])), (71, (0, 72, 0, 0, 0, 0, 0, [])), (72, (32, 75, 5, 11, 0, 0, 0, [])), (75, (4, 76, 0, 0, 0, 0, 0, [])), (76, (0, 77, 0, 0, 0, -1, 0, [])), (77, (32, 80, 5, 12, 0, 0, 0, [])), (80, (4, 81, 0, 0, 0, 0, 0, [])), (81, (0, 82, 0, 0, 0, 0, 0, [])), (82, (32, 85, 5, 13, 0, 0, 0, [])), (85, (4, 86, 0, 0, 0, 0, 0, [])), (86, (0, 88, 0, 0, 0, 40, 0, [])), (88, (32, 91, 5, 14, 0, 0, 0, [])), (91, (4, 92, 0, 0, 0, 0, 0, [])), (92, (0, 93, 0, 0, 0, -1, 0, [])), (93, (32, 96, 5, 15, 0, 0, 0, [])), (96, (4, 97, 0, 0, 0, 0, 0, [])), (97, (0, 98, 0, 0, 0, 0, 0, [])), (98, (32, 101, 5, 16, 0, 0, 0, [])), (101, (55, 102, 0, 0, 0, 0, 0, []))], [(2, []), (23, [])])
def tx_Stair_finish : Tx := ([(0, (4, 1, 0, 0, 0, 0, 0, [])), (1, (29, 4, 5, 8, 0, 0, 0, [])), (4, (25, 7, 1, 17, 0, 0, 0, [])), (7, (4, 8, 0, 0, 0, 0, 0, [])), (8, (0, 9, 0, 0, 0, 1, 0, [])), (9, (50, 12, 27, 2, 0, 0, 0, [5])), (12, (4, 13, 0, 0, 0, 0, 0, [])), (13, (0, 14, 0, 0, 0, 2, 0, [])), (14, (50, 17, 27, 2, 0, 0, 0, [5])), (17, (0, 18, 0, 0, 0, 0, 0, [])), (18, (5, 19, 1, 0, 0, 0, 0, [])), (19, (2, 20, 1, 0, 0, 0, 0, [])), (20, (4, 21, 0, 0, 0, 0, 0, [])), (21, (31, 24, 5, 1, 20, 0, 0, [])), (24, (36, 25, 0, 0, 0, 0, 0, [])), (25, (24, 28, 3, 41, 0, 0, 0, [])), (28, (4, 29, 0, 0, 0, 0, 0, [])), (29, (31, 32, 5, 1, 20, 0, 0, [])), (32, (2, 33, 1, 0, 0, 0, 0, [])), (33, (0, 34, 0, 0, 0, 0, 0, [])), (34, (42, 35, 0, 0, 0, 0, 0, [])), (35, (8, 38, 1, 0, 0, 1, 0, [])), (38, (26, 41, 0, 19, 0, 0, 0, [])), (41, (0, 42, 0, 0, 0, 0, 0, [])), (42, (5, 43, 1, 0, 0, 0, 0, [])), (43, (2, 44, 1, 0, 0, 0, 0, [])), (44, (4, 45, 0, 0, 0, 0, 0, [])), (45, (29, 48, 5, 8, 0, 0, 0, [])), (48, (24, 51, 3, 71, 0, 0, 0, [])), (51, (4, 52, 0, 0, 0, 0, 0, [])), (52, (31, 55, 5, 1, 20, 0, 0, [])), (55, (4, 56, 0, 0, 0, 0, 0, [])), (56, (31, 59, 5, 0, 20, 0, 0, [])), (59, (2, 60, 1, 0, 0, 0, 0, [])), (60, (37, 61, 0, 0, 0, 0, 0, [])), (61, (2, 62, 1, 0, 0, 0, 0, [])), (62, (0, 63, 0, 0, 0, 1, 0, [])), (63, (9, 64, 0, 0, 0, 0, 0, [])), (64, (42, 65, 0, 0, 0, 0, 0, [])), (65, (8, 68, 1, 0, 0, 1, 0, [])), (68, (26, 71, 0, 43, 0, 0, 0, [])), (71, (4, 72, 0, 0, 0, 0, 0, [])), (72, (50, 75, 35, 1, 0, 0, 0, [5])), (75, (4, 76, 0, 0, 0, 0, 0, [])), (76, (50, 79, 36, 1, 0, 0, 0, [5])), (79, (55, 80, 0, 0, 0, 0, 0, []))], [(19, []), (43, [])])
def tx_Stair_addStride : Tx := ([(0, (4, 1, 0, 0, 0, 0, 0, [])), (1, (29, 4, 5, 8, 0, 0, 0, [])), (4, (0, 6, 0, 0, 0, 6, 0, [])), (6, (24, 9, 3, 20, 0, 0, 0, [])), (9, (2, 10, 1, 0, 0, 0, 0, [])), (10, (0, 11, 0, 0, 0, 1, 0, [])), (11, (24, 14, 2, 20, 0, 0, 0, [])), (14, (2, 15, 1, 0, 0, 0, 0, [])), (15, (0, 17, 0, 0, 0, 12, 0, [])), (17, (24, 20, 5, 21, 0, 0, 0, [])), (20, (55, 21, 0, 0, 0, 0, 0, [])), (21, (4, 22, 0, 0, 0, 0, 0, [])), (22, (29, 25, 5, 8, 0, 0, 0, [])), (25, (5, 26, 2, 0, 0, 0, 0, [])), (26, (2, 27, 2, 0, 0, 0, 0, [])), (27, (25, 30, 5, 62, 0, 0, 0, [])), (30, (4, 31, 0, 0, 0, 0, 0, [])), (31, (31, 34, 5, 0, 20, 0, 0, [])), (34, (2, 35, 2, 0, 0, 0, 0, [])), (35, (0, 36, 0, 0, 0, 1, 0, [])), (36, (9, 37, 1, 0, 0, 0, 0, [])), (37, (37, 38, 0, 0, 0, 0, 0, [])), (38, (2, 39, 1, 0, 0, 0, 0, [])), (39, (24, 42, 5, 62, 0, 0, 0, [])), (42, (4, 43, 0, 0, 0, 0, 0, [])), (43, (31, 46, 5, 0, 20, 0, 0, [])), (46, (2, 47, 2, 0, 0, 0, 0, [])), (47, (4, 48, 0, 0, 0, 0, 0, [])), (48, (31, 51, 5, 0, 20, 0, 0, [])), (51, (2, 52, 2, 0, 0, 0, 0, [])), (52, (0, 53, 0, 0, 0, 1, 0, [])), (53, (9, 54, 1, 0, 0, 0, 0, [])), (54, (37, 55, 0, 0, 0, 0, 0, [])), (55, (42, 56, 0, 0, 0, 0, 0, [])), (56, (8, 59, 2, 0, 0, -1, 0, [])), (59, (26, 62, 0, 26, 0, 0, 0, [])), (62, (4, 63, 0, 0, 0, 0, 0, [])), (63, (31, 66, 5, 0, 20, 0, 0, [])), (66, (2, 67, 2, 0, 0, 0, 0, [])), (67, (2, 68, 1, 0, 0, 0, 0, [])), (68, (42, 69, 0, 0, 0, 0, 0, [])), (69, (4, 70, 0, 0, 0, 0, 0, [])), (70, (22, 71, 0, 0, 0, 0, 0, [])), (71, (29, 74, 5, 8, 0, 0, 0, [])), (74, (0, 75, 0, 0, 0, 1, 0, [])), (75, (9, 76, 0, 0, 0, 0, 0, [])), (76, (32, 79, 5, 8, 0, 0, 0, [])), (79, (4, 80, 0, 0, 0, 0, 0, [])), (80, (22, 81, 0, 0, 0, 0, 0, [])), (81, (29, 84, 5, 9, 0, 0, 0, [])), (84, (0, 85, 0, 0, 0, 1, 0, [])), (85, (2, 86, 1, 0, 0, 0, 0, [])), (86, (9, 87, 6, 0, 0, 0, 0, [])), (87, (9, 88, 4, 0, 0, 0, 0, [])), (88, (32, 91, 5, 9, 0, 0, 0, [])), (91, (55, 92, 0, 0, 0, 0, 0, []))], [(26, []), (62, [])])
def tx_Stair_tells : Tx := ([(0, (2, 1, 1, 0, 0, 0, 0, [])), (1, (0, 2, 0, 0, 0, 1, 0, [])), (2, (24, 5, 2, 26, 0, 0, 0, [])), (5, (2, 6, 1, 0, 0, 0, 0, [])), (6, (0, 8, 0, 0, 0, 12, 0, [])), (8, (24, 11, 4, 26, 0, 0, 0, [])), (11, (4, 12, 0, 0, 0, 0, 0, [])), (12, (29, 15, 5, 9, 0, 0, 0, [])), (15, (2, 16, 1, 0, 0, 0, 0, [])), (16, (9, 17, 7, 0, 0, 0, 0, [])), (17, (0, 18, 0, 0, 0, 1, 0, [])), (18, (9, 19, 3, 0, 0, 0, 0, [])), (19, (25, 22, 0, 26, 0, 0, 0, [])), (22, (0, 23, 0, 0, 0, 1, 0, [])), (23, (26, 26, 0, 27, 0, 0, 0, [])), (26, (0, 27, 0, 0, 0, 0, 0, [])), (27, (53, 28, 1, 0, 0, 0, 0, []))], [])
def tx_Stair_isBarred : Tx := ([(0, (2, 1, 1, 0, 0, 0, 0, [])), (1, (25, 4, 2, 27, 0, 0, 0, [])), (4, (2, 5, 1, 0, 0, 0, 0, [])), (5, (0, 7, 0, 0, 0, 12, 0, [])), (7, (24, 10, 4, 27, 0, 0, 0, [])), (10, (4, 11, 0, 0, 0, 0, 0, [])), (11, (31, 14, 5, 3, 20, 0, 0, [])), (14, (2, 15, 1, 0, 0, 0, 0, [])), (15, (37, 16, 0, 0, 0, 0, 0, [])), (16, (2, 17, 2, 0, 0, 0, 0, [])), (17, (9, 18, 7, 0, 0, 0, 0, [])), (18, (0, 19, 0, 0, 0, 1, 0, [])), (19, (9, 20, 3, 0, 0, 0, 0, [])), (20, (25, 23, 0, 27, 0, 0, 0, [])), (23, (0, 24, 0, 0, 0, 1, 0, [])), (24, (26, 27, 0, 28, 0, 0, 0, [])), (27, (0, 28, 0, 0, 0, 0, 0, [])), (28, (53, 29, 1, 0, 0, 0, 0, []))], [])
def tx_Stair_isGreat : Tx := ([(0, (4, 1, 0, 0, 0, 0, 0, [])), (1, (29, 4, 5, 15, 0, 0, 0, [])), (4, (0, 5, 0, 0, 0, -1, 0, [])), (5, (24, 8, 0, 20, 0, 0, 0, [])), (8, (2, 9, 1, 0, 0, 0, 0, [])), (9, (4, 10, 0, 0, 0, 0, 0, [])), (10, (29, 13, 5, 15, 0, 0, 0, [])), (13, (24, 16, 2, 20, 0, 0, 0, [])), (16, (0, 17, 0, 0, 0, 1, 0, [])), (17, (26, 20, 0, 21, 0, 0, 0, [])), (20, (0, 21, 0, 0, 0, 0, 0, [])), (21, (53, 22, 1, 0, 0, 0, 0, []))], [])
def tx_Stair_footFits : Tx := ([(0, (4, 1, 0, 0, 0, 0, 0, [])), (1, (29, 4, 5, 12, 0, 0, 0, [])), (4, (0, 5, 0, 0, 0, -1, 0, [])), (5, (24, 8, 0, 18, 0, 0, 0, [])), (8, (4, 9, 0, 0, 0, 0, 0, [])), (9, (29, 12, 5, 12, 0, 0, 0, [])), (12, (2, 13, 1, 0, 0, 0, 0, [])), (13, (0, 14, 0, 0, 0, 1, 0, [])), (14, (9, 15, 3, 0, 0, 0, 0, [])), (15, (24, 18, 1, 22, 0, 0, 0, [])), (18, (0, 19, 0, 0, 0, 1, 0, [])), (19, (26, 22, 0, 23, 0, 0, 0, [])), (22, (0, 23, 0, 0, 0, 0, 0, [])), (23, (53, 24, 1, 0, 0, 0, 0, []))], [])
def tx_Stair_longest : Tx := ([(0, (4, 1, 0, 0, 0, 0, 0, [])), (1, (29, 4, 5, 8, 0, 0, 0, [])), (4, (25, 7, 5, 21, 0, 0, 0, [])), (7, (4, 8, 0, 0, 0, 0, 0, [])), (8, (31, 11, 5, 0, 20, 0, 0, [])), (11, (4, 12, 0, 0, 0, 0, 0, [])), (12, (29, 15, 5, 8, 0, 0, 0, [])), (15, (0, 16, 0, 0, 0, 1, 0, [])), (16, (9, 17, 1, 0, 0, 0, 0, [])), (17, (37, 18, 0, 0, 0, 0, 0, [])), (18, (26, 21, 0, 22, 0, 0, 0, [])), (21, (0, 22, 0, 0, 0, 1, 0, [])), (22, (53, 23, 0, 0, 0, 0, 0, []))], [])
def tx_Stair_creakKinds : Tx := ([(0, (4, 1, 0, 0, 0, 0, 0, [])), (1, (29, 4, 5, 10, 0, 0, 0, [])), (4, (0, 5, 0, 0, 0, -1, 0, [])), (5, (24, 8, 1, 12, 0, 0, 0, [])), (8, (0, 9, 0, 0, 0, 1, 0, [])), (9, (26, 12, 0, 18, 0, 0, 0, [])), (12, (4, 13, 0, 0, 0, 0, 0, [])), (13, (29, 16, 5, 10, 0, 0, 0, [])), (16, (0, 17, 0, 0, 0, 1, 0, [])), (17, (9, 18, 0, 0, 0, 0, 0, [])), (18, (53, 19, 0, 0, 0, 0, 0, []))], [])
def tx_Stair_greatKinds : Tx := ([(0, (4, 1, 0, 0, 0, 0, 0, [])), (1, (29, 4, 5, 15, 0, 0, 0, [])), (4, (0, 5, 0, 0, 0, -1, 0, [])), (5, (24, 8, 1, 12, 0, 0, 0, [])), (8, (0, 9, 0, 0, 0, 1, 0, [])), (9, (26, 12, 0, 18, 0, 0, 0, [])), (12, (4, 13, 0, 0, 0, 0, 0, [])), (13, (29, 16, 5, 16, 0, 0, 0, [])), (16, (0, 17, 0, 0, 0, 1, 0, [])), (17, (9, 18, 0, 0, 0, 0, 0, [])), (18, (53, 19, 0, 0, 0, 0, 0, []))], [])
def tx_Stair_findFarthest : Tx := ([(0, (4, 1, 0, 0, 0, 0, 0, [])), (1, (29, 4, 5, 7, 0, 0, 0, [])), (4, (5, 5, 1, 0, 0, 0, 0, [])), (5, (4, 6, 0, 0, 0, 0, 0, [])), (6, (29, 9, 5, 7, 0, 0, 0, [])), (9, (5, 10, 2, 0, 0, 0, 0, [])), (10, (2, 11, 2, 0, 0, 0, 0, [])), (11, (25, 14, 2, 39, 0, 0, 0, [])), (14, (4, 15, 0, 0, 0, 0, 0, [])), (15, (31, 18, 5, 5, 20, 0, 0, [])), (18, (2, 19, 2, 0, 0, 0, 0, [])), (19, (2, 20, 1, 0, 0, 0, 0, [])), (20, (42, 21, 0, 0, 0, 0, 0, [])), (21, (4, 22, 0, 0, 0, 0, 0, [])), (22, (31, 25, 5, 2, 20, 0, 0, [])), (25, (2, 26, 2, 0, 0, 0, 0, [])), (26, (37, 27, 0, 0, 0, 0, 0, [])), (27, (0, 28, 0, 0, 0, 3, 0, [])), (28, (24, 31, 1, 33, 0, 0, 0, [])), (31, (2, 32, 2, 0, 0, 0, 0, [])), (32, (5, 33, 1, 0, 0, 0, 0, [])), (33, (8, 36, 2, 0, 0, -1, 0, [])), (36, (26, 39, 0, 10, 0, 0, 0, [])), (39, (55, 40, 0, 0, 0, 0, 0, []))], [(10, [])])
def tx_Stair_findHeaps : Tx := ([(0, (4, 1, 0, 0, 0, 0, 0, [])), (1, (29, 4, 5, 7, 0, 0, 0, [])), (4, (5, 5, 1, 0, 0, 0, 0, [])), (5, (2, 6, 1, 0, 0, 0, 0, [])), (6, (25, 9, 2, 40, 0, 0, 0, [])), (9, (4, 10, 0, 0, 0, 0, 0, [])), (10, (31, 13, 5, 4, 20, 0, 0, [])), (13, (2, 14, 1, 0, 0, 0, 0, [])), (14, (4, 15, 0, 0, 0, 0, 0, [])), (15, (31, 18, 5, 2, 20, 0, 0, [])), (18, (2, 19, 1, 0, 0, 0, 0, [])), (19, (37, 20, 0, 0, 0, 0, 0, [])), (20, (0, 21, 0, 0, 0, 1, 0, [])), (21, (24, 24, 1, 28, 0, 0, 0, [])), (24, (0, 25, 0, 0, 0, -1, 0, [])), (25, (26, 28, 0, 33, 0, 0, 0, [])), (28, (4, 29, 0, 0, 0, 0, 0, [])), (29, (2, 30, 1, 0, 0, 0, 0, [])), (30, (50, 33, 37, 2, 1, 0, 0, [5])), (33, (42, 34, 0, 0, 0, 0, 0, [])), (34, (8, 37, 1, 0, 0, -1, 0, [])), (37, (26, 40, 0, 5, 0, 0, 0, [])), (40, (55, 41, 0, 0, 0, 0, 0, []))], [(5, [])])
def tx_Stair_leastHeap : Tx := ([(0, (0, 1, 0, 0, 0, 0, 0, [])), (1, (5, 2, 2, 0, 0, 0, 0, [])), (2, (0, 3, 0, 0, 0, 0, 0, [])), (3, (5, 4, 3, 0, 0, 0, 0, [])), (4, (2, 5, 3, 0, 0, 0, 0, [])), (5, (4, 6, 0, 0, 0, 0, 0, [])), (6, (29, 9, 5, 8, 0, 0, 0, [])), (9, (24, 12, 3, 60, 0, 0, 0, [])), (12, (2, 13, 1, 0, 0, 0, 0, [])), (13, (4, 14, 0, 0, 0, 0, 0, [])), (14, (31, 17, 5, 0, 20, 0, 0, [])), (17, (2, 18, 3, 0, 0, 0, 0, [])), (18, (37, 19, 0, 0, 0, 0, 0, [])), (19, (9, 20, 0, 0, 0, 0, 0, [])), (20, (5, 22, 4, 0, 0, 0, 0, [])), (22, (2, 24, 4, 0, 0, 0, 0, [])), (24, (4, 25, 0, 0, 0, 0, 0, [])), (25, (29, 28, 5, 7, 0, 0, 0, [])), (28, (24, 31, 4, 54, 0, 0, 0, [])), (31, (4, 32, 0, 0, 0, 0, 0, [])), (32, (31, 35, 5, 2, 20, 0, 0, [])), (35, (2, 37, 4, 0, 0, 0, 0, [])), (37, (37, 38, 0, 0, 0, 0, 0, [])), (38, (0, 39, 0, 0, 0, 1, 0, [])), (39, (24, 42, 0, 54, 0, 0, 0, [])), (42, (2, 43, 2, 0, 0, 0, 0, [])), (43, (0, 44, 0, 0, 0, 1, 0, [])), (44, (4, 45, 0, 0, 0, 0, 0, [])), (45, (31, 48, 5, 4, 20, 0, 0, [])), (48, (2, 50, 4, 0, 0, 0, 0, [])), (50, (37, 51, 0, 0, 0, 0, 0, [])), (51, (9, 52, 6, 0, 0, 0, 0, [])), (52, (9, 53, 4, 0, 0, 0, 0, [])), (53, (5, 54, 2, 0, 0, 0, 0, [])), (54, (8, 57, 3, 0, 0, 1, 0, [])), (57, (26, 60, 0, 4, 0, 0, 0, [])), (60, (0, 61, 0, 0, 0, 0, 0, [])), (61, (5, 62, 3, 0, 0, 0, 0, [])), (62, (2, 63, 3, 0, 0, 0, 0, [])), (63, (0, 65, 0, 0, 0, 6, 0, [])), (65, (24, 68, 4, 82, 0, 0, 0, [])), (68, (2, 69, 2, 0, 0, 0, 0, [])), (69, (2, 70, 3, 0, 0, 0, 0, [])), (70, (9, 71, 7, 0, 0, 0, 0, [])), (71, (0, 72, 0, 0, 0, 1, 0, [])), (72, (9, 73, 3, 0, 0, 0, 0, [])), (73, (25, 76, 0, 82, 0, 0, 0, [])), (76, (8, 79, 3, 0, 0, 1, 0, [])), (79, (26, 82, 0, 62, 0, 0, 0, [])), (82, (2, 83, 3, 0, 0, 0, 0, [])), (83, (53, 84, 0, 0, 0, 0, 0, []))], [(4, [4]), (62, [0, 1, 4])])
def tx_StairReader_new : Tx := ([(0, (4, 1, 0, 0, 0, 0, 0, [])), (1, (51, 4, 0, 0, 0, 0, 0, [])), (4, (4, 5, 0, 0, 0, 0, 0, [])), (5, (49, 8, 8, 6, 0, 0, 0, [])), (8, (22, 9, 0, 0, 0, 0, 0, [])), (9, (50, 12, 66, 1, 0, 0, 0, [])), (12, (35, 15, 6, 0, 8, 0, 0, [])), (15, (55, 16, 0, 0, 0, 0, 0, []))], [])
def tx_StairReader_read : Tx := ([(0, (4, 1, 0, 0, 0, 0, 0, [])), (1, (0, 2, 0, 0, 0, 0, 0, [])), (2, (32, 5, 6, 1, 0, 0, 0, [])), (5, (4, 6, 0, 0, 0, 0, 0, [])), (6, (0, 7, 0, 0, 0, 0, 0, [])), (7, (32, 10, 6, 2, 0, 0, 0, [])), (10, (4, 11, 1, 0, 0, 0, 0, [])), (11, (50, 14, 25, 1, 0, 0, 0, [5])), (14, (4, 15, 0, 0, 0, 0, 0, [])), (15, (31, 18, 6, 0, 8, 0, 0, [])), (18, (50, 21, 68, 1, 0, 0, 0, [8])), (21, (4, 22, 0, 0, 0, 0, 0, [])), (22, (4, 23, 1, 0, 0, 0, 0, [])), (23, (50, 26, 40, 2, 1, 0, 0, [6])), (26, (5, 27, 2, 0, 0, 0, 0, [])), (27, (0, 28, 0, 0, 0, 0, 0, [])), (28, (5, 29, 3, 0, 0, 0, 0, [])), (29, (2, 30, 3, 0, 0, 0, 0, [])), (30, (0, 33, 0, 0, 0, 1000, 0, [])), (33, (24, 36, 3, 62, 0, 0, 0, [])), (36, (2, 37, 2, 0, 0, 0, 0, [])), (37, (25, 40, 0, 62, 0, 0, 0, [])), (40, (4, 41, 0, 0, 0, 0, 0, [])), (41, (31, 44, 6, 0, 8, 0, 0, [])), (44, (29, 47, 8, 2, 0, 0, 0, [])), (47, (25, 50, 0, 62, 0, 0, 0, [])), (50, (4, 51, 0, 0, 0, 0, 0, [])), (51, (4, 52, 1, 0, 0, 0, 0, [])), (52, (50, 55, 41, 2, 1, 0, 0, [6])), (55, (5, 56, 2, 0, 0, 0, 0, [])), (56, (8, 59, 3, 0, 0, 1, 0, [])), (59, (26, 62, 0, 29, 0, 0, 0, [])), (62, (4, 63, 0, 0, 0, 0, 0, [])), (63, (31, 66, 6, 0, 8, 0, 0, [])), (66, (0, 67, 0, 0, 0, 0, 0, [])), (67, (32, 70, 8, 1, 0, 0, 0, [])), (70, (4, 71, 0, 0, 0, 0, 0, [])), (71, (29, 74, 6, 2, 0, 0, 0, [])), (74, (25, 77, 1, 81, 0, 0, 0, [])), (77, (4, 78, 1, 0, 0, 0, 0, [])), (78, (50, 81, 26, 1, 0, 0, 0, [5])), (81, (4, 82, 0, 0, 0, 0, 0, [])), (82, (29, 85, 6, 2, 0, 0, 0, [])), (85, (53, 86, 0, 0, 0, 0, 0, []))], [(29, []), (62, [2, 3])])
def tx_StairReader_readFirst : Tx := ([(0, (4, 1, 0, 0, 0, 0, 0, [])), (1, (59, 3, 1, 49, 0, 0, 0, [])), (3, (50, 6, 58, 2, 1, 0, 0, [6])), (6, (25, 9, 0, 19, 0, 0, 0, [])), (9, (4, 10, 0, 0, 0, 0, 0, [])), (10, (0, 11, 0, 0, 0, 1, 0, [])), (11, (0, 13, 0, 0, 0, 40, 0, [])), (13, (50, 16, 57, 3, 1, 0, 0, [6])), (16, (25, 19, 1, 21, 0, 0, 0, [])), (19, (0, 20, 0, 0, 0, 0, 0, [])), (20, (53, 21, 1, 0, 0, 0, 0, [])), (21, (4, 22, 1, 0, 0, 0, 0, [])), (22, (4, 23, 0, 0, 0, 0, 0, [])), (23, (29, 26, 6, 3, 0, 0, 0, [])), (26, (32, 29, 5, 7, 0, 0, 0, [])), (29, (4, 30, 0, 0, 0, 0, 0, [])), (30, (0, 32, 0, 0, 0, 59, 0, [])), (32, (50, 35, 59, 2, 1, 0, 0, [6])), (35, (53, 36, 1, 0, 0, 0, 0, []))], [])
def tx_StairReader_readLine : Tx := ([(0, (4, 1, 0, 0, 0, 0, 0, [])), (1, (31, 4, 6, 0, 8, 0, 0, [])), (4, (59, 6, 2, 69, 0, 0, 0, [])), (6, (50, 9, 70, 2, 1, 0, 0, [8])), (9, (25, 12, 0, 34, 0, 0, 0, [])), (12, (4, 13, 0, 0, 0, 0, 0, [])), (13, (0, 14, 0, 0, 0, 1, 0, [])), (14, (50, 17, 55, 2, 1, 0, 0, [6])), (17, (25, 20, 0, 32, 0, 0, 0, [])), (20, (4, 21, 0, 0, 0, 0, 0, [])), (21, (4, 22, 1, 0, 0, 0, 0, [])), (22, (50, 25, 42, 2, 1, 0, 0, [6])), (25, (25, 28, 0, 32, 0, 0, 0, [])), (28, (0, 29, 0, 0, 0, 1, 0, [])), (29, (26, 32, 0, 33, 0, 0, 0, [])), (32, (0, 33, 0, 0, 0, 0, 0, [])), (33, (53, 34, 1, 0, 0, 0, 0, [])), (34, (4, 35, 0, 0, 0, 0, 0, [])), (35, (31, 38, 6, 0, 8, 0, 0, [])), (38, (59, 40, 3, 81, 0, 0, 0, [])), (40, (50, 43, 70, 2, 1, 0, 0, [8])), (43, (25, 46, 0, 53, 0, 0, 0, [])), (46, (4, 47, 0, 0, 0, 0, 0, [])), (47, (4, 48, 1, 0, 0, 0, 0, [])), (48, (0, 49, 0, 0, 0, 1, 0, [])), (49, (50, 52, 43, 3, 1, 0, 0, [6])), (52, (53, 53, 1, 0, 0, 0, 0, [])), (53, (4, 54, 0, 0, 0, 0, 0, [])), (54, (31, 57, 6, 0, 8, 0, 0, [])), (57, (59, 59, 4, 87, 0, 0, 0, [])), (59, (50, 62, 70, 2, 1, 0, 0, [8])), (62, (25, 65, 0, 72, 0, 0, 0, [])), (65, (4, 66, 0, 0, 0, 0, 0, [])), (66, (4, 67, 1, 0, 0, 0, 0, [])), (67, (0, 68, 0, 0, 0, 2, 0, [])), (68, (50, 71, 43, 3, 1, 0, 0, [6])), (71, (53, 72, 1, 0, 0, 0, 0, [])), (72, (4, 73, 0, 0, 0, 0, 0, [])), (73, (31, 76, 6, 0, 8, 0, 0, [])), (76, (59, 78, 5, 89, 0, 0, 0, [])), (78, (50, 81, 70, 2, 1, 0, 0, [8])), (81, (25, 84, 0, 91, 0, 0, 0, [])), (84, (4, 85, 0, 0, 0, 0, 0, [])), (85, (4, 86, 1, 0, 0, 0, 0, [])), (86, (0, 87, 0, 0, 0, 3, 0, [])), (87, (50, 90, 43, 3, 1, 0, 0, [6])), (90, (53, 91, 1, 0, 0, 0, 0, [])), (91, (4, 92, 0, 0, 0, 0, 0, [])), (92, (31, 95, 6, 0, 8, 0, 0, [])), (95, (59, 97, 6, 91, 0, 0, 0, [])), (97, (50, 100, 70, 2, 1, 0, 0, [8])), (100, (25, 103, 0, 125, 0, 0, 0, [])), (103, (4, 104, 0, 0, 0, 0, 0, [])), (104, (0, 105, 0, 0, 0, 2, 0, [])), (105, (50, 108, 55, 2, 1, 0, 0, [6])), (108, (25, 111, 0, 123, 0, 0, 0, [])), (111, (4, 112, 0, 0, 0, 0, 0, [])), (112, (4, 113, 1, 0, 0, 0, 0, [])), (113, (50, 116, 44, 2, 1, 0, 0, [6])), (116, (25, 119, 0, 123, 0, 0, 0, [])), (119, (0, 120, 0, 0, 0, 1, 0, [])), (120, (26, 123, 0, 124, 0, 0, 0, [])), (123, (0, 124, 0, 0, 0, 0, 0, [])), (124, (53, 125, 1, 0, 0, 0, 0, [])), (125, (4, 126, 0, 0, 0, 0, 0, [])), (126, (31, 129, 6, 0, 8, 0, 0, [])), (129, (59, 131, 7, 96, 0, 0, 0, [])), (131, (50, 134, 70, 2, 1, 0, 0, [8])), (134, (25, 137, 0, 143, 0, 0, 0, [])), (137, (4, 138, 0, 0, 0, 0, 0, [])), (138, (4, 139, 1, 0, 0, 0, 0, [])), (139, (50, 142, 45, 2, 1, 0, 0, [6])), (142, (53, 143, 1, 0, 0, 0, 0, [])), (143, (4, 144, 0, 0, 0, 0, 0, [])), (144, (31, 147, 6, 0, 8, 0, 0, [])), (147, (59, 149, 8, 101, 0, 0, 0, [])), (149, (50, 152, 70, 2, 1, 0, 0, [8])), (152, (25, 155, 0, 177, 0, 0, 0, [])), (155, (4, 156, 0, 0, 0, 0, 0, [])), (156, (0, 157, 0, 0, 0, 4, 0, [])), (157, (50, 160, 55, 2, 1, 0, 0, [6])), (160, (25, 163, 0, 175, 0, 0, 0, [])), (163, (4, 164, 0, 0, 0, 0, 0, [])), (164, (4, 165, 1, 0, 0, 0, 0, [])), (165, (50, 168, 46, 2, 1, 0, 0, [6])), (168, (25, 171, 0, 175, 0, 0, 0, [])), (171, (0, 172, 0, 0, 0, 1, 0, [])), (172, (26, 175, 0, 176, 0, 0, 0, [])), (175, (0, 176, 0, 0, 0, 0, 0, [])), (176, (53, 177, 1, 0, 0, 0, 0, [])), (177, (4, 178, 0, 0, 0, 0, 0, [])), (178, (31, 181, 6, 0, 8, 0, 0, [])), (181, (59, 183, 11, 106, 0, 0, 0, [])), (183, (50, 186, 70, 2, 1, 0, 0, [8])), (186, (25, 189, 0, 212, 0, 0, 0, [])), (189, (4, 190, 0, 0, 0, 0, 0, [])), (190, (0, 192, 0, 0, 0, 8, 0, [])), (192, (50, 195, 55, 2, 1, 0, 0, [6])), (195, (25, 198, 0, 210, 0, 0, 0, [])), (198, (4, 199, 0, 0, 0, 0, 0, [])), (199, (4, 200, 1, 0, 0, 0, 0, [])), (200, (50, 203, 47, 2, 1, 0, 0, [6])), (203, (25, 206, 0, 210, 0, 0, 0, [])), (206, (0, 207, 0, 0, 0, 1, 0, [])), (207, (26, 210, 0, 211, 0, 0, 0, [])), (210, (0, 211, 0, 0, 0, 0, 0, [])), (211, (53, 212, 1, 0, 0, 0, 0, [])), (212, (4, 213, 0, 0, 0, 0, 0, [])), (213, (31, 216, 6, 0, 8, 0, 0, [])), (216, (59, 218, 13, 111, 0, 0, 0, [])), (218, (50, 221, 70, 2, 1, 0, 0, [8])), (221, (25, 224, 0, 247, 0, 0, 0, [])), (224, (4, 225, 0, 0, 0, 0, 0, [])), (225, (0, 227, 0, 0, 0, 16, 0, [])), (227, (50, 230, 55, 2, 1, 0, 0, [6])), (230, (25, 233, 0, 245, 0, 0, 0, [])), (233, (4, 234, 0, 0, 0, 0, 0, [])), (234, (4, 235, 1, 0, 0, 0, 0, [])), (235, (50, 238, 48, 2, 1, 0, 0, [6])), (238, (25, 241, 0, 245, 0, 0, 0, [])), (241, (0, 242, 0, 0, 0, 1, 0, [])), (242, (26, 245, 0, 246, 0, 0, 0, [])), (245, (0, 246, 0, 0, 0, 0, 0, [])), (246, (53, 247, 1, 0, 0, 0, 0, [])), (247, (4, 248, 0, 0, 0, 0, 0, [])), (248, (31, 251, 6, 0, 8, 0, 0, [])), (251, (59, 253, 15, 116, 0, 0, 0, [])), (253, (50, 256, 70, 2, 1, 0, 0, [8])), (256, (25, 259, 0, 295, 0, 0, 0, [])), (259, (4, 260, 0, 0, 0, 0, 0, [])), (260, (0, 262, 0, 0, 0, 32, 0, [])), (262, (50, 265, 55, 2, 1, 0, 0, [6])), (265, (25, 268, 0, 293, 0, 0, 0, [])), (268, (4, 269, 0, 0, 0, 0, 0, [])), (269, (4, 270, 1, 0, 0, 0, 0, [])), (270, (31, 273, 5, 6, 2, 0, 0, [])), (273, (0, 274, 0, 0, 0, 0, 0, [])), (274, (50, 277, 49, 3, 1, 0, 0, [6])), (277, (25, 280, 0, 293, 0, 0, 0, [])), (280, (4, 281, 0, 0, 0, 0, 0, [])), (281, (0, 283, 0, 0, 0, 59, 0, [])), (283, (50, 286, 59, 2, 1, 0, 0, [6])), (286, (25, 289, 0, 293, 0, 0, 0, [])), (289, (0, 290, 0, 0, 0, 1, 0, [])), (290, (26, 293, 0, 294, 0, 0, 0, [])), (293, (0, 294, 0, 0, 0, 0, 0, [])), (294, (53, 295, 1, 0, 0, 0, 0, [])), (295, (4, 296, 0, 0, 0, 0, 0, [])), (296, (0, 297, 0, 0, 0, 1, 0, [])), (297, (50, 300, 60, 2, 1, 0, 0, [6])), (300, (53, 301, 1, 0, 0, 0, 0, []))], [(34, []), (91, []), (177, []), (247, [])])
def tx_StairReader_readStrides : Tx := ([(0, (0, 1, 0, 0, 0, 0, 0, [])), (1, (5, 2, 2, 0, 0, 0, 0, [])), (2, (2, 3, 2, 0, 0, 0, 0, [])), (3, (0, 5, 0, 0, 0, 6, 0, [])), (5, (24, 8, 4, 106, 0, 0, 0, [])), (8, (2, 9, 2, 0, 0, 0, 0, [])), (9, (25, 12, 5, 27, 0, 0, 0, [])), (12, (4, 13, 0, 0, 0, 0, 0, [])), (13, (31, 16, 6, 0, 8, 0, 0, [])), (16, (29, 19, 8, 2, 0, 0, 0, [])), (19, (0, 21, 0, 0, 0, 59, 0, [])), (21, (24, 24, 1, 27, 0, 0, 0, [])), (24, (26, 27, 0, 106, 0, 0, 0, [])), (27, (4, 28, 0, 0, 0, 0, 0, [])), (28, (31, 31, 6, 0, 8, 0, 0, [])), (31, (29, 34, 8, 2, 0, 0, 0, [])), (34, (0, 35, 0, 0, 0, 3, 0, [])), (35, (24, 38, 1, 58, 0, 0, 0, [])), (38, (4, 39, 1, 0, 0, 0, 0, [])), (39, (4, 40, 0, 0, 0, 0, 0, [])), (40, (31, 43, 6, 0, 8, 0, 0, [])), (43, (29, 46, 8, 5, 0, 0, 0, [])), (46, (50, 49, 28, 2, 1, 0, 0, [5])), (49, (25, 52, 0, 58, 0, 0, 0, [])), (52, (4, 53, 0, 0, 0, 0, 0, [])), (53, (0, 54, 0, 0, 0, 3, 0, [])), (54, (50, 57, 60, 2, 1, 0, 0, [6])), (57, (53, 58, 1, 0, 0, 0, 0, [])), (58, (4, 59, 0, 0, 0, 0, 0, [])), (59, (0, 60, 0, 0, 0, 1, 0, [])), (60, (0, 62, 0, 0, 0, 12, 0, [])), (62, (50, 65, 56, 3, 1, 0, 0, [6])), (65, (25, 68, 1, 70, 0, 0, 0, [])), (68, (0, 69, 0, 0, 0, 0, 0, [])), (69, (53, 70, 1, 0, 0, 0, 0, [])), (70, (2, 71, 2, 0, 0, 0, 0, [])), (71, (0, 73, 0, 0, 0, 6, 0, [])), (73, (24, 76, 1, 82, 0, 0, 0, [])), (76, (4, 77, 0, 0, 0, 0, 0, [])), (77, (0, 78, 0, 0, 0, 5, 0, [])), (78, (50, 81, 60, 2, 1, 0, 0, [6])), (81, (53, 82, 1, 0, 0, 0, 0, [])), (82, (4, 83, 1, 0, 0, 0, 0, [])), (83, (4, 84, 0, 0, 0, 0, 0, [])), (84, (31, 87, 6, 0, 8, 0, 0, [])), (87, (29, 90, 8, 5, 0, 0, 0, [])), (90, (50, 93, 27, 2, 0, 0, 0, [5])), (93, (4, 94, 0, 0, 0, 0, 0, [])), (94, (31, 97, 6, 0, 8, 0, 0, [])), (97, (50, 100, 69, 1, 0, 0, 0, [8])), (100, (8, 103, 2, 0, 0, 1, 0, [])), (103, (26, 106, 0, 2, 0, 0, 0, [])), (106, (4, 107, 0, 0, 0, 0, 0, [])), (107, (0, 109, 0, 0, 0, 59, 0, [])), (109, (50, 112, 59, 2, 1, 0, 0, [6])), (112, (53, 113, 1, 0, 0, 0, 0, []))], [(2, []), (27, []), (58, [])])
def tx_StairReader_readStep : Tx := ([(0, (4, 1, 0, 0, 0, 0, 0, [])), (1, (31, 4, 6, 0, 8, 0, 0, [])), (4, (50, 7, 69, 1, 0, 0, 0, [8])), (7, (4, 8, 0, 0, 0, 0, 0, [])), (8, (0, 9, 0, 0, 0, 1, 0, [])), (9, (4, 10, 1, 0, 0, 0, 0, [])), (10, (29, 13, 5, 7, 0, 0, 0, [])), (13, (0, 14, 0, 0, 0, 1, 0, [])), (14, (9, 15, 1, 0, 0, 0, 0, [])), (15, (50, 18, 56, 3, 1, 0, 0, [6])), (18, (25, 21, 1, 23, 0, 0, 0, [])), (21, (0, 22, 0, 0, 0, 0, 0, [])), (22, (53, 23, 1, 0, 0, 0, 0, [])), (23, (4, 24, 0, 0, 0, 0, 0, [])), (24, (31, 27, 6, 0, 8, 0, 0, [])), (27, (29, 30, 8, 5, 0, 0, 0, [])), (30, (5, 31, 3, 0, 0, 0, 0, [])), (31, (4, 32, 1, 0, 0, 0, 0, [])), (32, (31, 35, 5, 2, 20, 0, 0, [])), (35, (2, 36, 3, 0, 0, 0, 0, [])), (36, (37, 37, 0, 0, 0, 0, 0, [])), (37, (25, 40, 0, 46, 0, 0, 0, [])), (40, (4, 41, 0, 0, 0, 0, 0, [])), (41, (0, 42, 0, 0, 0, 3, 0, [])), (42, (50, 45, 60, 2, 1, 0, 0, [6])), (45, (53, 46, 1, 0, 0, 0, 0, [])), (46, (4, 47, 1, 0, 0, 0, 0, [])), (47, (31, 50, 5, 2, 20, 0, 0, [])), (50, (2, 51, 3, 0, 0, 0, 0, [])), (51, (2, 52, 2, 0, 0, 0, 0, [])), (52, (42, 53, 0, 0, 0, 0, 0, [])), (53, (4, 54, 0, 0, 0, 0, 0, [])), (54, (31, 57, 6, 0, 8, 0, 0, [])), (57, (50, 60, 69, 1, 0, 0, 0, [8])), (60, (4, 61, 0, 0, 0, 0, 0, [])), (61, (0, 63, 0, 0, 0, 59, 0, [])), (63, (50, 66, 59, 2, 1, 0, 0, [6])), (66, (53, 67, 1, 0, 0, 0, 0, []))], [])
def tx_StairReader_readCreaks : Tx := ([(0, (4, 1, 0, 0, 0, 0, 0, [])), (1, (0, 2, 0, 0, 0, 0, 0, [])), (2, (0, 3, 0, 0, 0, 4, 0, [])), (3, (50, 6, 57, 3, 1, 0, 0, [6])), (6, (25, 9, 1, 11, 0, 0, 0, [])), (9, (0, 10, 0, 0, 0, 0, 0, [])), (10, (53, 11, 1, 0, 0, 0, 0, [])), (11, (4, 12, 1, 0, 0, 0, 0, [])), (12, (4, 13, 0, 0, 0, 0, 0, [])), (13, (29, 16, 6, 3, 0, 0, 0, [])), (16, (32, 19, 5, 10, 0, 0, 0, [])), (19, (4, 20, 0, 0, 0, 0, 0, [])), (20, (0, 22, 0, 0, 0, 59, 0, [])), (22, (50, 25, 59, 2, 1, 0, 0, [6])), (25, (53, 26, 1, 0, 0, 0, 0, []))], [])
def tx_StairReader_readBar : Tx := ([(0, (4, 1, 1, 0, 0, 0, 0, [])), (1, (29, 4, 5, 11, 0, 0, 0, [])), (4, (0, 6, 0, 0, 0, 8, 0, [])), (6, (24, 9, 2, 15, 0, 0, 0, [])), (9, (4, 10, 0, 0, 0, 0, 0, [])), (10, (0, 11, 0, 0, 0, 5, 0, [])), (11, (50, 14, 60, 2, 1, 0, 0, [6])), (14, (53, 15, 1, 0, 0, 0, 0, [])), (15, (4, 16, 0, 0, 0, 0, 0, [])), (16, (31, 19, 6, 0, 8, 0, 0, [])), (19, (50, 22, 69, 1, 0, 0, 0, [8])), (22, (4, 23, 0, 0, 0, 0, 0, [])), (23, (0, 24, 0, 0, 0, 1, 0, [])), (24, (0, 26, 0, 0, 0, 12, 0, [])), (26, (50, 29, 57, 3, 1, 0, 0, [6])), (29, (25, 32, 1, 34, 0, 0, 0, [])), (32, (0, 33, 0, 0, 0, 0, 0, [])), (33, (53, 34, 1, 0, 0, 0, 0, [])), (34, (4, 35, 0, 0, 0, 0, 0, [])), (35, (29, 38, 6, 3, 0, 0, 0, [])), (38, (5, 39, 2, 0, 0, 0, 0, [])), (39, (4, 40, 0, 0, 0, 0, 0, [])), (40, (0, 41, 0, 0, 0, 1, 0, [])), (41, (0, 43, 0, 0, 0, 12, 0, [])), (43, (50, 46, 56, 3, 1, 0, 0, [6])), (46, (25, 49, 1, 51, 0, 0, 0, [])), (49, (0, 50, 0, 0, 0, 0, 0, [])), (50, (53, 51, 1, 0, 0, 0, 0, [])), (51, (4, 52, 1, 0, 0, 0, 0, [])), (52, (2, 53, 2, 0, 0, 0, 0, [])), (53, (4, 54, 0, 0, 0, 0, 0, [])), (54, (31, 57, 6, 0, 8, 0, 0, [])), (57, (29, 60, 8, 5, 0, 0, 0, [])), (60, (50, 63, 29, 3, 1, 0, 0, [5])), (63, (25, 66, 0, 72, 0, 0, 0, [])), (66, (4, 67, 0, 0, 0, 0, 0, [])), (67, (0, 68, 0, 0, 0, 3, 0, [])), (68, (50, 71, 60, 2, 1, 0, 0, [6])), (71, (53, 72, 1, 0, 0, 0, 0, [])), (72, (4, 73, 1, 0, 0, 0, 0, [])), (73, (31, 76, 5, 3, 20, 0, 0, [])), (76, (2, 77, 2, 0, 0, 0, 0, [])), (77, (23, 78, 0, 0, 0, 0, 0, [])), (78, (37, 79, 0, 0, 0, 0, 0, [])), (79, (0, 80, 0, 0, 0, 1, 0, [])), (80, (4, 81, 0, 0, 0, 0, 0, [])), (81, (31, 84, 6, 0, 8, 0, 0, [])), (84, (29, 87, 8, 5, 0, 0, 0, [])), (87, (9, 88, 6, 0, 0, 0, 0, [])), (88, (9, 89, 4, 0, 0, 0, 0, [])), (89, (42, 90, 0, 0, 0, 0, 0, [])), (90, (4, 91, 1, 0, 0, 0, 0, [])), (91, (22, 92, 0, 0, 0, 0, 0, [])), (92, (29, 95, 5, 11, 0, 0, 0, [])), (95, (0, 96, 0, 0, 0, 1, 0, [])), (96, (9, 97, 0, 0, 0, 0, 0, [])), (97, (32, 100, 5, 11, 0, 0, 0, [])), (100, (4, 101, 0, 0, 0, 0, 0, [])), (101, (31, 104, 6, 0, 8, 0, 0, [])), (104, (50, 107, 69, 1, 0, 0, 0, [8])), (107, (4, 108, 0, 0, 0, 0, 0, [])), (108, (0, 110, 0, 0, 0, 59, 0, [])), (110, (50, 113, 59, 2, 1, 0, 0, [6])), (113, (53, 114, 1, 0, 0, 0, 0, []))], [(34, [2])])
def tx_StairReader_readFoot : Tx := ([(0, (4, 1, 0, 0, 0, 0, 0, [])), (1, (31, 4, 6, 0, 8, 0, 0, [])), (4, (59, 6, 9, 160, 0, 0, 0, [])), (6, (50, 9, 70, 2, 1, 0, 0, [8])), (9, (25, 12, 0, 20, 0, 0, 0, [])), (12, (4, 13, 1, 0, 0, 0, 0, [])), (13, (0, 14, 0, 0, 0, 1, 0, [])), (14, (32, 17, 5, 12, 0, 0, 0, [])), (17, (26, 20, 0, 46, 0, 0, 0, [])), (20, (4, 21, 0, 0, 0, 0, 0, [])), (21, (31, 24, 6, 0, 8, 0, 0, [])), (24, (59, 26, 10, 164, 0, 0, 0, [])), (26, (50, 29, 70, 2, 1, 0, 0, [8])), (29, (25, 32, 0, 40, 0, 0, 0, [])), (32, (4, 33, 1, 0, 0, 0, 0, [])), (33, (0, 34, 0, 0, 0, 0, 0, [])), (34, (32, 37, 5, 12, 0, 0, 0, [])), (37, (26, 40, 0, 46, 0, 0, 0, [])), (40, (4, 41, 0, 0, 0, 0, 0, [])), (41, (0, 42, 0, 0, 0, 1, 0, [])), (42, (50, 45, 60, 2, 1, 0, 0, [6])), (45, (53, 46, 1, 0, 0, 0, 0, [])), (46, (4, 47, 0, 0, 0, 0, 0, [])), (47, (31, 50, 6, 0, 8, 0, 0, [])), (50, (50, 53, 69, 1, 0, 0, 0, [8])), (53, (4, 54, 0, 0, 0, 0, 0, [])), (54, (0, 56, 0, 0, 0, 59, 0, [])), (56, (50, 59, 59, 2, 1, 0, 0, [6])), (59, (53, 60, 1, 0, 0, 0, 0, []))], [])
def tx_StairReader_readCount : Tx := ([(0, (4, 1, 0, 0, 0, 0, 0, [])), (1, (0, 2, 0, 0, 0, 0, 0, [])), (2, (0, 4, 0, 0, 0, 40, 0, [])), (4, (50, 7, 57, 3, 1, 0, 0, [6])), (7, (25, 10, 1, 12, 0, 0, 0, [])), (10, (0, 11, 0, 0, 0, 0, 0, [])), (11, (53, 12, 1, 0, 0, 0, 0, [])), (12, (4, 13, 1, 0, 0, 0, 0, [])), (13, (4, 14, 0, 0, 0, 0, 0, [])), (14, (29, 17, 6, 3, 0, 0, 0, [])), (17, (32, 20, 5, 13, 0, 0, 0, [])), (20, (4, 21, 0, 0, 0, 0, 0, [])), (21, (59, 23, 12, 169, 0, 0, 0, [])), (23, (50, 26, 58, 2, 1, 0, 0, [6])), (26, (25, 29, 0, 42, 0, 0, 0, [])), (29, (4, 30, 0, 0, 0, 0, 0, [])), (30, (4, 31, 1, 0, 0, 0, 0, [])), (31, (29, 34, 5, 13, 0, 0, 0, [])), (34, (0, 36, 0, 0, 0, 40, 0, [])), (36, (50, 39, 57, 3, 1, 0, 0, [6])), (39, (25, 42, 1, 44, 0, 0, 0, [])), (42, (0, 43, 0, 0, 0, 0, 0, [])), (43, (53, 44, 1, 0, 0, 0, 0, [])), (44, (4, 45, 1, 0, 0, 0, 0, [])), (45, (4, 46, 0, 0, 0, 0, 0, [])), (46, (29, 49, 6, 3, 0, 0, 0, [])), (49, (32, 52, 5, 14, 0, 0, 0, [])), (52, (4, 53, 0, 0, 0, 0, 0, [])), (53, (0, 55, 0, 0, 0, 59, 0, [])), (55, (50, 58, 59, 2, 1, 0, 0, [6])), (58, (53, 59, 1, 0, 0, 0, 0, []))], [])
def tx_StairReader_readGreat : Tx := ([(0, (4, 1, 0, 0, 0, 0, 0, [])), (1, (0, 2, 0, 0, 0, 1, 0, [])), (2, (0, 4, 0, 0, 0, 12, 0, [])), (4, (50, 7, 57, 3, 1, 0, 0, [6])), (7, (25, 10, 1, 12, 0, 0, 0, [])), (10, (0, 11, 0, 0, 0, 0, 0, [])), (11, (53, 12, 1, 0, 0, 0, 0, [])), (12, (4, 13, 1, 0, 0, 0, 0, [])), (13, (4, 14, 0, 0, 0, 0, 0, [])), (14, (29, 17, 6, 3, 0, 0, 0, [])), (17, (32, 20, 5, 15, 0, 0, 0, [])), (20, (4, 21, 0, 0, 0, 0, 0, [])), (21, (59, 23, 14, 176, 0, 0, 0, [])), (23, (50, 26, 58, 2, 1, 0, 0, [6])), (26, (25, 29, 0, 38, 0, 0, 0, [])), (29, (4, 30, 0, 0, 0, 0, 0, [])), (30, (0, 31, 0, 0, 0, 0, 0, [])), (31, (0, 32, 0, 0, 0, 4, 0, [])), (32, (50, 35, 57, 3, 1, 0, 0, [6])), (35, (25, 38, 1, 40, 0, 0, 0, [])), (38, (0, 39, 0, 0, 0, 0, 0, [])), (39, (53, 40, 1, 0, 0, 0, 0, [])), (40, (4, 41, 1, 0, 0, 0, 0, [])), (41, (4, 42, 0, 0, 0, 0, 0, [])), (42, (29, 45, 6, 3, 0, 0, 0, [])), (45, (32, 48, 5, 16, 0, 0, 0, [])), (48, (4, 49, 0, 0, 0, 0, 0, [])), (49, (0, 51, 0, 0, 0, 59, 0, [])), (51, (50, 54, 59, 2, 1, 0, 0, [6])), (54, (53, 55, 1, 0, 0, 0, 0, []))], [])
def tx_StairReader_readEither : Tx := ([(0, (4, 1, 0, 0, 0, 0, 0, [])), (1, (4, 2, 1, 0, 0, 0, 0, [])), (2, (2, 3, 2, 0, 0, 0, 0, [])), (3, (50, 6, 50, 3, 1, 0, 0, [6])), (6, (25, 9, 1, 11, 0, 0, 0, [])), (9, (0, 10, 0, 0, 0, 0, 0, [])), (10, (53, 11, 1, 0, 0, 0, 0, [])), (11, (0, 12, 0, 0, 0, 0, 0, [])), (12, (5, 13, 3, 0, 0, 0, 0, [])), (13, (2, 14, 3, 0, 0, 0, 0, [])), (14, (0, 17, 0, 0, 0, 1000, 0, [])), (17, (24, 20, 3, 95, 0, 0, 0, [])), (20, (4, 21, 0, 0, 0, 0, 0, [])), (21, (31, 24, 6, 0, 8, 0, 0, [])), (24, (59, 26, 21, 184, 0, 0, 0, [])), (26, (50, 29, 70, 2, 1, 0, 0, [8])), (29, (25, 32, 1, 44, 0, 0, 0, [])), (32, (4, 33, 0, 0, 0, 0, 0, [])), (33, (31, 36, 6, 0, 8, 0, 0, [])), (36, (59, 38, 22, 186, 0, 0, 0, [])), (38, (50, 41, 70, 2, 1, 0, 0, [8])), (41, (25, 44, 0, 95, 0, 0, 0, [])), (44, (4, 45, 0, 0, 0, 0, 0, [])), (45, (31, 48, 6, 0, 8, 0, 0, [])), (48, (59, 50, 21, 184, 0, 0, 0, [])), (50, (50, 53, 70, 2, 1, 0, 0, [8])), (53, (25, 56, 0, 61, 0, 0, 0, [])), (56, (0, 58, 0, 0, 0, -11, 0, [])), (58, (26, 61, 0, 63, 0, 0, 0, [])), (61, (0, 63, 0, 0, 0, -12, 0, [])), (63, (5, 65, 4, 0, 0, 0, 0, [])), (65, (4, 66, 0, 0, 0, 0, 0, [])), (66, (31, 69, 6, 0, 8, 0, 0, [])), (69, (50, 72, 69, 1, 0, 0, 0, [8])), (72, (4, 73, 0, 0, 0, 0, 0, [])), (73, (4, 74, 1, 0, 0, 0, 0, [])), (74, (2, 75, 2, 0, 0, 0, 0, [])), (75, (50, 78, 50, 3, 1, 0, 0, [6])), (78, (25, 81, 1, 83, 0, 0, 0, [])), (81, (0, 82, 0, 0, 0, 0, 0, [])), (82, (53, 83, 1, 0, 0, 0, 0, [])), (83, (4, 84, 1, 0, 0, 0, 0, [])), (84, (2, 86, 4, 0, 0, 0, 0, [])), (86, (50, 89, 12, 2, 0, 0, 0, [2])), (89, (8, 92, 3, 0, 0, 1, 0, [])), (92, (26, 95, 0, 13, 0, 0, 0, [])), (95, (0, 96, 0, 0, 0, 1, 0, [])), (96, (53, 97, 1, 0, 0, 0, 0, []))], [(13, [4]), (44, [4]), (63, [4])])
def tx_StairReader_readTest : Tx := ([(0, (4, 1, 0, 0, 0, 0, 0, [])), (1, (4, 2, 1, 0, 0, 0, 0, [])), (2, (2, 3, 2, 0, 0, 0, 0, [])), (3, (50, 6, 51, 3, 1, 0, 0, [6])), (6, (25, 9, 1, 11, 0, 0, 0, [])), (9, (0, 10, 0, 0, 0, 0, 0, [])), (10, (53, 11, 1, 0, 0, 0, 0, [])), (11, (4, 12, 0, 0, 0, 0, 0, [])), (12, (31, 15, 6, 0, 8, 0, 0, [])), (15, (29, 18, 8, 2, 0, 0, 0, [])), (18, (0, 20, 0, 0, 0, 60, 0, [])), (20, (24, 23, 0, 37, 0, 0, 0, [])), (23, (4, 24, 0, 0, 0, 0, 0, [])), (24, (31, 27, 6, 0, 8, 0, 0, [])), (27, (29, 30, 8, 2, 0, 0, 0, [])), (30, (0, 32, 0, 0, 0, 61, 0, [])), (32, (24, 35, 0, 37, 0, 0, 0, [])), (35, (0, 36, 0, 0, 0, 1, 0, [])), (36, (53, 37, 1, 0, 0, 0, 0, [])), (37, (4, 38, 0, 0, 0, 0, 0, [])), (38, (31, 41, 6, 0, 8, 0, 0, [])), (41, (29, 44, 8, 2, 0, 0, 0, [])), (44, (0, 46, 0, 0, 0, 60, 0, [])), (46, (24, 49, 1, 54, 0, 0, 0, [])), (49, (0, 51, 0, 0, 0, -9, 0, [])), (51, (26, 54, 0, 56, 0, 0, 0, [])), (54, (0, 56, 0, 0, 0, -10, 0, [])), (56, (5, 57, 3, 0, 0, 0, 0, [])), (57, (4, 58, 0, 0, 0, 0, 0, [])), (58, (31, 61, 6, 0, 8, 0, 0, [])), (61, (50, 64, 69, 1, 0, 0, 0, [8])), (64, (4, 65, 0, 0, 0, 0, 0, [])), (65, (4, 66, 1, 0, 0, 0, 0, [])), (66, (2, 67, 2, 0, 0, 0, 0, [])), (67, (50, 70, 51, 3, 1, 0, 0, [6])), (70, (25, 73, 1, 75, 0, 0, 0, [])), (73, (0, 74, 0, 0, 0, 0, 0, [])), (74, (53, 75, 1, 0, 0, 0, 0, [])), (75, (4, 76, 1, 0, 0, 0, 0, [])), (76, (2, 77, 3, 0, 0, 0, 0, [])), (77, (50, 80, 12, 2, 0, 0, 0, [2])), (80, (0, 81, 0, 0, 0, 1, 0, [])), (81, (53, 82, 1, 0, 0, 0, 0, []))], [(37, [3]), (56, [3])])
def tx_StairReader_readSum : Tx := ([(0, (4, 1, 0, 0, 0, 0, 0, [])), (1, (4, 2, 1, 0, 0, 0, 0, [])), (2, (2, 3, 2, 0, 0, 0, 0, [])), (3, (50, 6, 52, 3, 1, 0, 0, [6])), (6, (25, 9, 1, 11, 0, 0, 0, [])), (9, (0, 10, 0, 0, 0, 0, 0, [])), (10, (53, 11, 1, 0, 0, 0, 0, [])), (11, (0, 12, 0, 0, 0, 0, 0, [])), (12, (5, 13, 3, 0, 0, 0, 0, [])), (13, (2, 14, 3, 0, 0, 0, 0, [])), (14, (0, 17, 0, 0, 0, 1000, 0, [])), (17, (24, 20, 3, 95, 0, 0, 0, [])), (20, (4, 21, 0, 0, 0, 0, 0, [])), (21, (31, 24, 6, 0, 8, 0, 0, [])), (24, (29, 27, 8, 2, 0, 0, 0, [])), (27, (0, 29, 0, 0, 0, 43, 0, [])), (29, (24, 32, 0, 44, 0, 0, 0, [])), (32, (4, 33, 0, 0, 0, 0, 0, [])), (33, (31, 36, 6, 0, 8, 0, 0, [])), (36, (29, 39, 8, 2, 0, 0, 0, [])), (39, (0, 41, 0, 0, 0, 45, 0, [])), (41, (24, 44, 1, 95, 0, 0, 0, [])), (44, (4, 45, 0, 0, 0, 0, 0, [])), (45, (31, 48, 6, 0, 8, 0, 0, [])), (48, (29, 51, 8, 2, 0, 0, 0, [])), (51, (0, 53, 0, 0, 0, 43, 0, [])), (53, (24, 56, 1, 61, 0, 0, 0, [])), (56, (0, 58, 0, 0, 0, -6, 0, [])), (58, (26, 61, 0, 63, 0, 0, 0, [])), (61, (0, 63, 0, 0, 0, -7, 0, [])), (63, (5, 65, 4, 0, 0, 0, 0, [])), (65, (4, 66, 0, 0, 0, 0, 0, [])), (66, (31, 69, 6, 0, 8, 0, 0, [])), (69, (50, 72, 69, 1, 0, 0, 0, [8])), (72, (4, 73, 0, 0, 0, 0, 0, [])), (73, (4, 74, 1, 0, 0, 0, 0, [])), (74, (2, 75, 2, 0, 0, 0, 0, [])), (75, (50, 78, 52, 3, 1, 0, 0, [6])), (78, (25, 81, 1, 83, 0, 0, 0, [])), (81, (0, 82, 0, 0, 0, 0, 0, [])), (82, (53, 83, 1, 0, 0, 0, 0, [])), (83, (4, 84, 1, 0, 0, 0, 0, [])), (84, (2, 86, 4, 0, 0, 0, 0, [])), (86, (50, 89, 12, 2, 0, 0, 0, [2])), (89, (8, 92, 3, 0, 0, 1, 0, [])), (92, (26, 95, 0, 13, 0, 0, 0, [])), (95, (0, 96, 0, 0, 0, 1, 0, [])), (96, (53, 97, 1, 0, 0, 0, 0, []))], [(13, [4]), (44, [4]), (63, [4])])
def tx_StairReader_readProduct : Tx := ([(0, (4, 1, 0, 0, 0, 0, 0, [])), (1, (4, 2, 1, 0, 0, 0, 0, [])), (2, (2, 3, 2, 0, 0, 0, 0, [])), (3, (50, 6, 53, 3, 1, 0, 0, [6])), (6, (25, 9, 1, 11, 0, 0, 0, [])), (9, (0, 10, 0, 0, 0, 0, 0, [])), (10, (53, 11, 1, 0, 0, 0, 0, [])), (11, (0, 12, 0, 0, 0, 0, 0, [])), (12, (5, 13, 3, 0, 0, 0, 0, [])), (13, (2, 14, 3, 0, 0, 0, 0, [])), (14, (0, 17, 0, 0, 0, 1000, 0, [])), (17, (24, 20, 3, 62, 0, 0, 0, [])), (20, (4, 21, 0, 0, 0, 0, 0, [])), (21, (31, 24, 6, 0, 8, 0, 0, [])), (24, (29, 27, 8, 2, 0, 0, 0, [])), (27, (0, 29, 0, 0, 0, 42, 0, [])), (29, (24, 32, 1, 62, 0, 0, 0, [])), (32, (4, 33, 0, 0, 0, 0, 0, [])), (33, (31, 36, 6, 0, 8, 0, 0, [])), (36, (50, 39, 69, 1, 0, 0, 0, [8])), (39, (4, 40, 0, 0, 0, 0, 0, [])), (40, (4, 41, 1, 0, 0, 0, 0, [])), (41, (2, 42, 2, 0, 0, 0, 0, [])), (42, (50, 45, 53, 3, 1, 0, 0, [6])), (45, (25, 48, 1, 50, 0, 0, 0, [])), (48, (0, 49, 0, 0, 0, 0, 0, [])), (49, (53, 50, 1, 0, 0, 0, 0, [])), (50, (4, 51, 1, 0, 0, 0, 0, [])), (51, (0, 53, 0, 0, 0, -8, 0, [])), (53, (50, 56, 12, 2, 0, 0, 0, [2])), (56, (8, 59, 3, 0, 0, 1, 0, [])), (59, (26, 62, 0, 13, 0, 0, 0, [])), (62, (0, 63, 0, 0, 0, 1, 0, [])), (63, (53, 64, 1, 0, 0, 0, 0, []))], [(13, [])])
def tx_StairReader_readPart : Tx := ([(0, (4, 1, 0, 0, 0, 0, 0, [])), (1, (31, 4, 6, 0, 8, 0, 0, [])), (4, (59, 6, 16, 202, 0, 0, 0, [])), (6, (50, 9, 70, 2, 1, 0, 0, [8])), (9, (5, 10, 3, 0, 0, 0, 0, [])), (10, (4, 11, 0, 0, 0, 0, 0, [])), (11, (31, 14, 6, 0, 8, 0, 0, [])), (14, (29, 17, 8, 2, 0, 0, 0, [])), (17, (0, 19, 0, 0, 0, 40, 0, [])), (19, (24, 22, 1, 26, 0, 0, 0, [])), (22, (0, 23, 0, 0, 0, 1, 0, [])), (23, (26, 26, 0, 27, 0, 0, 0, [])), (26, (0, 27, 0, 0, 0, 0, 0, [])), (27, (5, 29, 4, 0, 0, 0, 0, [])), (29, (4, 30, 0, 0, 0, 0, 0, [])), (30, (31, 33, 6, 0, 8, 0, 0, [])), (33, (29, 36, 8, 2, 0, 0, 0, [])), (36, (0, 37, 0, 0, 0, 3, 0, [])), (37, (24, 40, 1, 50, 0, 0, 0, [])), (40, (4, 41, 0, 0, 0, 0, 0, [])), (41, (31, 44, 6, 0, 8, 0, 0, [])), (44, (29, 47, 8, 5, 0, 0, 0, [])), (47, (26, 50, 0, 54, 0, 0, 0, [])), (50, (4, 51, 0, 0, 0, 0, 0, [])), (51, (50, 54, 54, 1, 1, 0, 0, [6])), (54, (5, 56, 5, 0, 0, 0, 0, [])), (56, (2, 57, 3, 0, 0, 0, 0, [])), (57, (25, 60, 1, 78, 0, 0, 0, [])), (60, (2, 62, 4, 0, 0, 0, 0, [])), (62, (25, 65, 1, 78, 0, 0, 0, [])), (65, (2, 67, 5, 0, 0, 0, 0, [])), (67, (0, 69, 0, 0, 0, -5, 0, [])), (69, (24, 72, 1, 78, 0, 0, 0, [])), (72, (4, 73, 0, 0, 0, 0, 0, [])), (73, (0, 74, 0, 0, 0, 1, 0, [])), (74, (50, 77, 60, 2, 1, 0, 0, [6])), (77, (53, 78, 1, 0, 0, 0, 0, [])), (78, (2, 79, 2, 0, 0, 0, 0, [])), (79, (0, 80, 0, 0, 0, 5, 0, [])), (80, (24, 83, 2, 89, 0, 0, 0, [])), (83, (4, 84, 0, 0, 0, 0, 0, [])), (84, (0, 85, 0, 0, 0, 5, 0, [])), (85, (50, 88, 60, 2, 1, 0, 0, [6])), (88, (53, 89, 1, 0, 0, 0, 0, [])), (89, (4, 90, 0, 0, 0, 0, 0, [])), (90, (31, 93, 6, 0, 8, 0, 0, [])), (93, (50, 96, 69, 1, 0, 0, 0, [8])), (96, (2, 98, 4, 0, 0, 0, 0, [])), (98, (25, 101, 0, 127, 0, 0, 0, [])), (101, (4, 102, 0, 0, 0, 0, 0, [])), (102, (4, 103, 1, 0, 0, 0, 0, [])), (103, (2, 104, 2, 0, 0, 0, 0, [])), (104, (0, 105, 0, 0, 0, 1, 0, [])), (105, (9, 106, 0, 0, 0, 0, 0, [])), (106, (50, 109, 49, 3, 1, 0, 0, [6])), (109, (25, 112, 0, 125, 0, 0, 0, [])), (112, (4, 113, 0, 0, 0, 0, 0, [])), (113, (0, 115, 0, 0, 0, 41, 0, [])), (115, (50, 118, 59, 2, 1, 0, 0, [6])), (118, (25, 121, 0, 125, 0, 0, 0, [])), (121, (0, 122, 0, 0, 0, 1, 0, [])), (122, (26, 125, 0, 126, 0, 0, 0, [])), (125, (0, 126, 0, 0, 0, 0, 0, [])), (126, (53, 127, 1, 0, 0, 0, 0, [])), (127, (2, 128, 3, 0, 0, 0, 0, [])), (128, (25, 131, 0, 144, 0, 0, 0, [])), (131, (4, 132, 0, 0, 0, 0, 0, [])), (132, (4, 133, 1, 0, 0, 0, 0, [])), (133, (2, 134, 2, 0, 0, 0, 0, [])), (134, (0, 135, 0, 0, 0, 1, 0, [])), (135, (9, 136, 0, 0, 0, 0, 0, [])), (136, (50, 139, 53, 3, 1, 0, 0, [6])), (139, (25, 142, 1, 144, 0, 0, 0, [])), (142, (0, 143, 0, 0, 0, 0, 0, [])), (143, (53, 144, 1, 0, 0, 0, 0, [])), (144, (4, 145, 1, 0, 0, 0, 0, [])), (145, (2, 146, 3, 0, 0, 0, 0, [])), (146, (25, 149, 0, 154, 0, 0, 0, [])), (149, (0, 151, 0, 0, 0, -5, 0, [])), (151, (26, 154, 0, 156, 0, 0, 0, [])), (154, (2, 156, 5, 0, 0, 0, 0, [])), (156, (50, 159, 12, 2, 0, 0, 0, [2])), (159, (0, 160, 0, 0, 0, 1, 0, [])), (160, (53, 161, 1, 0, 0, 0, 0, []))], [(27, [4, 5]), (54, [5]), (78, []), (144, [0, 2, 4])])
def tx_StairReader_namedFact : Tx := ([(0, (4, 1, 0, 0, 0, 0, 0, [])), (1, (31, 4, 6, 0, 8, 0, 0, [])), (4, (59, 6, 17, 208, 0, 0, 0, [])), (6, (50, 9, 70, 2, 1, 0, 0, [8])), (9, (25, 12, 0, 14, 0, 0, 0, [])), (12, (0, 13, 0, 0, 0, -1, 0, [])), (13, (53, 14, 0, 0, 0, 0, 0, [])), (14, (4, 15, 0, 0, 0, 0, 0, [])), (15, (31, 18, 6, 0, 8, 0, 0, [])), (18, (59, 20, 18, 210, 0, 0, 0, [])), (20, (50, 23, 70, 2, 1, 0, 0, [8])), (23, (25, 26, 0, 29, 0, 0, 0, [])), (26, (0, 28, 0, 0, 0, -2, 0, [])), (28, (53, 29, 0, 0, 0, 0, 0, [])), (29, (4, 30, 0, 0, 0, 0, 0, [])), (30, (31, 33, 6, 0, 8, 0, 0, [])), (33, (59, 35, 19, 212, 0, 0, 0, [])), (35, (50, 38, 70, 2, 1, 0, 0, [8])), (38, (25, 41, 0, 44, 0, 0, 0, [])), (41, (0, 43, 0, 0, 0, -3, 0, [])), (43, (53, 44, 0, 0, 0, 0, 0, [])), (44, (4, 45, 0, 0, 0, 0, 0, [])), (45, (31, 48, 6, 0, 8, 0, 0, [])), (48, (59, 50, 20, 214, 0, 0, 0, [])), (50, (50, 53, 70, 2, 1, 0, 0, [8])), (53, (25, 56, 0, 61, 0, 0, 0, [])), (56, (0, 58, 0, 0, 0, -4, 0, [])), (58, (26, 61, 0, 63, 0, 0, 0, [])), (61, (0, 63, 0, 0, 0, -5, 0, [])), (63, (53, 64, 0, 0, 0, 0, 0, []))], [])
def tx_StairReader_isFirst : Tx := ([(0, (4, 1, 0, 0, 0, 0, 0, [])), (1, (29, 4, 6, 1, 0, 0, 0, [])), (4, (2, 5, 1, 0, 0, 0, 0, [])), (5, (9, 6, 3, 0, 0, 0, 0, [])), (6, (25, 9, 0, 15, 0, 0, 0, [])), (9, (4, 10, 0, 0, 0, 0, 0, [])), (10, (0, 11, 0, 0, 0, 3, 0, [])), (11, (50, 14, 60, 2, 1, 0, 0, [6])), (14, (53, 15, 1, 0, 0, 0, 0, [])), (15, (4, 16, 0, 0, 0, 0, 0, [])), (16, (22, 17, 0, 0, 0, 0, 0, [])), (17, (29, 20, 6, 1, 0, 0, 0, [])), (20, (2, 21, 1, 0, 0, 0, 0, [])), (21, (9, 22, 4, 0, 0, 0, 0, [])), (22, (32, 25, 6, 1, 0, 0, 0, [])), (25, (4, 26, 0, 0, 0, 0, 0, [])), (26, (31, 29, 6, 0, 8, 0, 0, [])), (29, (50, 32, 69, 1, 0, 0, 0, [8])), (32, (0, 33, 0, 0, 0, 1, 0, [])), (33, (53, 34, 1, 0, 0, 0, 0, []))], [])
def tx_StairReader_isNumber : Tx := ([(0, (4, 1, 0, 0, 0, 0, 0, [])), (1, (31, 4, 6, 0, 8, 0, 0, [])), (4, (29, 7, 8, 2, 0, 0, 0, [])), (7, (0, 8, 0, 0, 0, 3, 0, [])), (8, (24, 11, 0, 17, 0, 0, 0, [])), (11, (4, 12, 0, 0, 0, 0, 0, [])), (12, (0, 13, 0, 0, 0, 1, 0, [])), (13, (50, 16, 60, 2, 1, 0, 0, [6])), (16, (53, 17, 1, 0, 0, 0, 0, [])), (17, (4, 18, 0, 0, 0, 0, 0, [])), (18, (31, 21, 6, 0, 8, 0, 0, [])), (21, (29, 24, 8, 5, 0, 0, 0, [])), (24, (2, 25, 1, 0, 0, 0, 0, [])), (25, (24, 28, 2, 39, 0, 0, 0, [])), (28, (4, 29, 0, 0, 0, 0, 0, [])), (29, (31, 32, 6, 0, 8, 0, 0, [])), (32, (29, 35, 8, 5, 0, 0, 0, [])), (35, (2, 36, 2, 0, 0, 0, 0, [])), (36, (24, 39, 5, 47, 0, 0, 0, [])), (39, (4, 40, 0, 0, 0, 0, 0, [])), (40, (0, 41, 0, 0, 0, 4, 0, [])), (41, (50, 44, 60, 2, 1, 0, 0, [6])), (44, (25, 47, 0, 51, 0, 0, 0, [])), (47, (0, 48, 0, 0, 0, 1, 0, [])), (48, (26, 51, 0, 52, 0, 0, 0, [])), (51, (0, 52, 0, 0, 0, 0, 0, [])), (52, (53, 53, 1, 0, 0, 0, 0, []))], [(39, [1, 2])])
def tx_StairReader_takeNumber : Tx := ([(0, (4, 1, 0, 0, 0, 0, 0, [])), (1, (2, 2, 1, 0, 0, 0, 0, [])), (2, (2, 3, 2, 0, 0, 0, 0, [])), (3, (50, 6, 56, 3, 1, 0, 0, [6])), (6, (25, 9, 1, 11, 0, 0, 0, [])), (9, (0, 10, 0, 0, 0, 0, 0, [])), (10, (53, 11, 1, 0, 0, 0, 0, [])), (11, (4, 12, 0, 0, 0, 0, 0, [])), (12, (4, 13, 0, 0, 0, 0, 0, [])), (13, (31, 16, 6, 0, 8, 0, 0, [])), (16, (29, 19, 8, 5, 0, 0, 0, [])), (19, (32, 22, 6, 3, 0, 0, 0, [])), (22, (4, 23, 0, 0, 0, 0, 0, [])), (23, (31, 26, 6, 0, 8, 0, 0, [])), (26, (50, 29, 69, 1, 0, 0, 0, [8])), (29, (0, 30, 0, 0, 0, 1, 0, [])), (30, (53, 31, 1, 0, 0, 0, 0, []))], [])
def tx_StairReader_takeWord : Tx := ([(0, (4, 1, 0, 0, 0, 0, 0, [])), (1, (31, 4, 6, 0, 8, 0, 0, [])), (4, (4, 5, 1, 0, 0, 0, 0, [])), (5, (50, 8, 70, 2, 1, 0, 0, [8])), (8, (25, 11, 1, 17, 0, 0, 0, [])), (11, (4, 12, 0, 0, 0, 0, 0, [])), (12, (0, 13, 0, 0, 0, 1, 0, [])), (13, (50, 16, 60, 2, 1, 0, 0, [6])), (16, (53, 17, 1, 0, 0, 0, 0, [])), (17, (4, 18, 0, 0, 0, 0, 0, [])), (18, (31, 21, 6, 0, 8, 0, 0, [])), (21, (50, 24, 69, 1, 0, 0, 0, [8])), (24, (0, 25, 0, 0, 0, 1, 0, [])), (25, (53, 26, 1, 0, 0, 0, 0, []))], [])
def tx_StairReader_takeSign : Tx := ([(0, (4, 1, 0, 0, 0, 0, 0, [])), (1, (31, 4, 6, 0, 8, 0, 0, [])), (4, (29, 7, 8, 2, 0, 0, 0, [])), (7, (2, 8, 1, 0, 0, 0, 0, [])), (8, (24, 11, 0, 17, 0, 0, 0, [])), (11, (4, 12, 0, 0, 0, 0, 0, [])), (12, (0, 13, 0, 0, 0, 1, 0, [])), (13, (50, 16, 60, 2, 1, 0, 0, [6])), (16, (53, 17, 1, 0, 0, 0, 0, [])), (17, (4, 18, 0, 0, 0, 0, 0, [])), (18, (31, 21, 6, 0, 8, 0, 0, [])), (21, (50, 24, 69, 1, 0, 0, 0, [8])), (24, (0, 25, 0, 0, 0, 1, 0, [])), (25, (53, 26, 1, 0, 0, 0, 0, []))], [])
def tx_StairReader_fail : Tx := ([(0, (4, 1, 0, 0, 0, 0, 0, [])), (1, (2, 2, 1, 0, 0, 0, 0, [])), (2, (0, 4, 0, 0, 0, 16, 0, [])), (4, (4, 5, 0, 0, 0, 0, 0, [])), (5, (31, 8, 6, 0, 8, 0, 0, [])), (8, (29, 11, 8, 3, 0, 0, 0, [])), (11, (9, 12, 2, 0, 0, 0, 0, [])), (12, (9, 13, 0, 0, 0, 0, 0, [])), (13, (32, 16, 6, 2, 0, 0, 0, [])), (16, (0, 17, 0, 0, 0, 0, 0, [])), (17, (53, 18, 1, 0, 0, 0, 0, []))], [])
def tx_Sweep_new : Tx := ([(0, (4, 1, 0, 0, 0, 0, 0, [])), (1, (51, 4, 0, 0, 0, 0, 0, [])), (4, (4, 5, 0, 0, 0, 0, 0, [])), (5, (0, 7, 0, 0, 0, 41, 0, [])), (7, (47, 9, 21, 0, 0, 0, 0, [])), (9, (35, 12, 7, 0, 21, 0, 0, [])), (12, (4, 13, 0, 0, 0, 0, 0, [])), (13, (0, 15, 0, 0, 0, 41, 0, [])), (15, (47, 17, 20, 0, 0, 0, 0, [])), (17, (35, 20, 7, 1, 20, 0, 0, [])), (20, (55, 21, 0, 0, 0, 0, 0, []))], [])
def tx_Sweep_fewestClimbers : Tx := ([(0, (4, 1, 2, 0, 0, 0, 0, [])), (1, (36, 2, 0, 0, 0, 0, 0, [])), (2, (4, 3, 1, 0, 0, 0, 0, [])), (3, (29, 6, 5, 7, 0, 0, 0, [])), (6, (24, 9, 4, 11, 0, 0, 0, [])), (9, (0, 10, 0, 0, 0, -1, 0, [])), (10, (53, 11, 0, 0, 0, 0, 0, [])), (11, (4, 12, 0, 0, 0, 0, 0, [])), (12, (4, 13, 1, 0, 0, 0, 0, [])), (13, (4, 14, 2, 0, 0, 0, 0, [])), (14, (50, 17, 63, 3, 0, 0, 0, [7])), (17, (0, 18, 0, 0, 0, 0, 0, [])), (18, (5, 19, 3, 0, 0, 0, 0, [])), (19, (0, 20, 0, 0, 0, 1, 0, [])), (20, (5, 22, 4, 0, 0, 0, 0, [])), (22, (2, 24, 4, 0, 0, 0, 0, [])), (24, (4, 25, 1, 0, 0, 0, 0, [])), (25, (29, 28, 5, 7, 0, 0, 0, [])), (28, (24, 31, 3, 98, 0, 0, 0, [])), (31, (4, 32, 2, 0, 0, 0, 0, [])), (32, (2, 34, 4, 0, 0, 0, 0, [])), (34, (37, 35, 0, 0, 0, 0, 0, [])), (35, (0, 36, 0, 0, 0, 1, 0, [])), (36, (24, 39, 0, 42, 0, 0, 0, [])), (39, (26, 42, 0, 92, 0, 0, 0, [])), (42, (4, 43, 0, 0, 0, 0, 0, [])), (43, (0, 44, 0, 0, 0, 0, 0, [])), (44, (2, 46, 4, 0, 0, 0, 0, [])), (46, (50, 49, 64, 3, 1, 0, 0, [7])), (49, (25, 52, 0, 65, 0, 0, 0, [])), (52, (4, 53, 0, 0, 0, 0, 0, [])), (53, (2, 55, 4, 0, 0, 0, 0, [])), (55, (4, 56, 1, 0, 0, 0, 0, [])), (56, (29, 59, 5, 7, 0, 0, 0, [])), (59, (50, 62, 64, 3, 1, 0, 0, [7])), (62, (25, 65, 1, 67, 0, 0, 0, [])), (65, (0, 66, 0, 0, 0, -1, 0, [])), (66, (53, 67, 0, 0, 0, 0, 0, [])), (67, (4, 68, 0, 0, 0, 0, 0, [])), (68, (1, 69, 0, 0, 0, 0, 0, [])), (69, (34, 72, 7, 2, 0, 0, 0, [])), (72, (2, 73, 3, 0, 0, 0, 0, [])), (73, (4, 74, 0, 0, 0, 0, 0, [])), (74, (4, 75, 1, 0, 0, 0, 0, [])), (75, (4, 76, 2, 0, 0, 0, 0, [])), (76, (2, 78, 4, 0, 0, 0, 0, [])), (78, (0, 79, 0, 0, 0, 0, 0, [])), (79, (50, 82, 65, 5, 1, 0, 0, [7])), (82, (25, 85, 0, 89, 0, 0, 0, [])), (85, (0, 86, 0, 0, 0, 0, 0, [])), (86, (26, 89, 0, 90, 0, 0, 0, [])), (89, (0, 90, 0, 0, 0, 1, 0, [])), (90, (9, 91, 0, 0, 0, 0, 0, [])), (91, (5, 92, 3, 0, 0, 0, 0, [])), (92, (8, 95, 4, 0, 0, 1, 0, [])), (95, (26, 98, 0, 22, 0, 0, 0, [])), (98, (2, 99, 3, 0, 0, 0, 0, [])), (99, (53, 100, 0, 0, 0, 0, 0, []))], [(22, []), (31, [])])
def tx_Sweep_findReached : Tx := ([(0, (4, 1, 1, 0, 0, 0, 0, [])), (1, (29, 4, 5, 7, 0, 0, 0, [])), (4, (5, 5, 3, 0, 0, 0, 0, [])), (5, (2, 6, 3, 0, 0, 0, 0, [])), (6, (25, 9, 2, 107, 0, 0, 0, [])), (9, (4, 10, 0, 0, 0, 0, 0, [])), (10, (31, 13, 7, 1, 20, 0, 0, [])), (13, (2, 14, 3, 0, 0, 0, 0, [])), (14, (0, 15, 0, 0, 0, -1, 0, [])), (15, (42, 16, 0, 0, 0, 0, 0, [])), (16, (4, 17, 0, 0, 0, 0, 0, [])), (17, (31, 20, 7, 0, 21, 0, 0, [])), (20, (2, 21, 3, 0, 0, 0, 0, [])), (21, (1, 22, 0, 0, 0, 0, 0, [])), (22, (43, 23, 0, 0, 0, 0, 0, [])), (23, (0, 24, 0, 0, 0, 0, 0, [])), (24, (5, 26, 4, 0, 0, 0, 0, [])), (26, (2, 28, 4, 0, 0, 0, 0, [])), (28, (4, 29, 1, 0, 0, 0, 0, [])), (29, (29, 32, 5, 8, 0, 0, 0, [])), (32, (24, 35, 3, 101, 0, 0, 0, [])), (35, (2, 36, 3, 0, 0, 0, 0, [])), (36, (4, 37, 1, 0, 0, 0, 0, [])), (37, (31, 40, 5, 0, 20, 0, 0, [])), (40, (2, 42, 4, 0, 0, 0, 0, [])), (42, (37, 43, 0, 0, 0, 0, 0, [])), (43, (9, 44, 0, 0, 0, 0, 0, [])), (44, (5, 46, 5, 0, 0, 0, 0, [])), (46, (2, 48, 5, 0, 0, 0, 0, [])), (48, (4, 49, 1, 0, 0, 0, 0, [])), (49, (29, 52, 5, 7, 0, 0, 0, [])), (52, (24, 55, 4, 95, 0, 0, 0, [])), (55, (4, 56, 1, 0, 0, 0, 0, [])), (56, (31, 59, 5, 2, 20, 0, 0, [])), (59, (2, 61, 5, 0, 0, 0, 0, [])), (61, (37, 62, 0, 0, 0, 0, 0, [])), (62, (0, 63, 0, 0, 0, 1, 0, [])), (63, (24, 66, 0, 95, 0, 0, 0, [])), (66, (4, 67, 2, 0, 0, 0, 0, [])), (67, (2, 69, 5, 0, 0, 0, 0, [])), (69, (37, 70, 0, 0, 0, 0, 0, [])), (70, (0, 71, 0, 0, 0, 2, 0, [])), (71, (24, 74, 0, 95, 0, 0, 0, [])), (74, (4, 75, 0, 0, 0, 0, 0, [])), (75, (31, 78, 7, 0, 21, 0, 0, [])), (78, (2, 79, 3, 0, 0, 0, 0, [])), (79, (23, 80, 0, 0, 0, 0, 0, [])), (80, (38, 81, 0, 0, 0, 0, 0, [])), (81, (4, 82, 0, 0, 0, 0, 0, [])), (82, (31, 85, 7, 0, 21, 0, 0, [])), (85, (2, 87, 5, 0, 0, 0, 0, [])), (87, (38, 88, 0, 0, 0, 0, 0, [])), (88, (1, 89, 0, 0, 0, 0, 1, [])), (89, (2, 91, 5, 0, 0, 0, 0, [])), (91, (14, 92, 0, 0, 0, 0, 0, [])), (92, (13, 93, 4, 0, 0, 0, 0, [])), (93, (13, 94, 4, 0, 0, 0, 0, [])), (94, (43, 95, 0, 0, 0, 0, 0, [])), (95, (8, 98, 4, 0, 0, 1, 0, [])), (98, (26, 101, 0, 26, 0, 0, 0, [])), (101, (8, 104, 3, 0, 0, -1, 0, [])), (104, (26, 107, 0, 5, 0, 0, 0, [])), (107, (55, 108, 0, 0, 0, 0, 0, []))], [(5, [4, 5]), (26, [5]), (35, [5])])
def tx_Sweep_leads : Tx := ([(0, (4, 1, 0, 0, 0, 0, 0, [])), (1, (31, 4, 7, 0, 21, 0, 0, [])), (4, (2, 5, 1, 0, 0, 0, 0, [])), (5, (38, 6, 0, 0, 0, 0, 0, [])), (6, (2, 7, 2, 0, 0, 0, 0, [])), (7, (15, 8, 0, 0, 0, 0, 0, [])), (8, (1, 9, 0, 0, 0, 0, 1, [])), (9, (13, 10, 3, 0, 0, 0, 0, [])), (10, (1, 11, 0, 0, 0, 0, 0, [])), (11, (21, 12, 0, 0, 0, 0, 0, [])), (12, (25, 15, 0, 19, 0, 0, 0, [])), (15, (0, 16, 0, 0, 0, 1, 0, [])), (16, (26, 19, 0, 20, 0, 0, 0, [])), (19, (0, 20, 0, 0, 0, 0, 0, [])), (20, (53, 21, 1, 0, 0, 0, 0, []))], [])
def tx_Sweep_joins : Tx := ([(0, (2, 2, 4, 0, 0, 0, 0, [])), (2, (0, 4, 0, 0, 0, 40, 0, [])), (4, (24, 7, 5, 9, 0, 0, 0, [])), (7, (0, 8, 0, 0, 0, 0, 0, [])), (8, (53, 9, 1, 0, 0, 0, 0, [])), (9, (2, 10, 3, 0, 0, 0, 0, [])), (10, (0, 11, 0, 0, 0, 1, 0, [])), (11, (9, 12, 0, 0, 0, 0, 0, [])), (12, (5, 14, 5, 0, 0, 0, 0, [])), (14, (2, 16, 5, 0, 0, 0, 0, [])), (16, (4, 17, 1, 0, 0, 0, 0, [])), (17, (29, 20, 5, 7, 0, 0, 0, [])), (20, (24, 23, 3, 118, 0, 0, 0, [])), (23, (4, 24, 2, 0, 0, 0, 0, [])), (24, (2, 26, 5, 0, 0, 0, 0, [])), (26, (37, 27, 0, 0, 0, 0, 0, [])), (27, (0, 28, 0, 0, 0, 1, 0, [])), (28, (24, 31, 1, 112, 0, 0, 0, [])), (31, (4, 32, 0, 0, 0, 0, 0, [])), (32, (2, 33, 3, 0, 0, 0, 0, [])), (33, (2, 35, 5, 0, 0, 0, 0, [])), (35, (50, 38, 64, 3, 1, 0, 0, [7])), (38, (25, 41, 0, 112, 0, 0, 0, [])), (41, (4, 42, 0, 0, 0, 0, 0, [])), (42, (30, 45, 7, 2, 0, 0, 0, [])), (45, (2, 47, 5, 0, 0, 0, 0, [])), (47, (15, 48, 0, 0, 0, 0, 0, [])), (48, (1, 49, 0, 0, 0, 0, 1, [])), (49, (13, 50, 3, 0, 0, 0, 0, [])), (50, (1, 51, 0, 0, 0, 0, 0, [])), (51, (21, 52, 0, 0, 0, 0, 0, [])), (52, (25, 55, 0, 58, 0, 0, 0, [])), (55, (26, 58, 0, 112, 0, 0, 0, [])), (58, (4, 59, 0, 0, 0, 0, 0, [])), (59, (22, 60, 0, 0, 0, 0, 0, [])), (60, (30, 63, 7, 2, 0, 0, 0, [])), (63, (1, 64, 0, 0, 0, 0, 1, [])), (64, (2, 66, 5, 0, 0, 0, 0, [])), (66, (14, 67, 0, 0, 0, 0, 0, [])), (67, (13, 68, 4, 0, 0, 0, 0, [])), (68, (34, 71, 7, 2, 0, 0, 0, [])), (71, (4, 72, 0, 0, 0, 0, 0, [])), (72, (31, 75, 7, 1, 20, 0, 0, [])), (75, (2, 77, 5, 0, 0, 0, 0, [])), (77, (37, 78, 0, 0, 0, 0, 0, [])), (78, (0, 79, 0, 0, 0, -1, 0, [])), (79, (24, 82, 0, 102, 0, 0, 0, [])), (82, (4, 83, 0, 0, 0, 0, 0, [])), (83, (4, 84, 1, 0, 0, 0, 0, [])), (84, (4, 85, 2, 0, 0, 0, 0, [])), (85, (4, 86, 0, 0, 0, 0, 0, [])), (86, (31, 89, 7, 1, 20, 0, 0, [])), (89, (2, 91, 5, 0, 0, 0, 0, [])), (91, (37, 92, 0, 0, 0, 0, 0, [])), (92, (2, 94, 4, 0, 0, 0, 0, [])), (94, (0, 95, 0, 0, 0, 1, 0, [])), (95, (9, 96, 0, 0, 0, 0, 0, [])), (96, (50, 99, 65, 5, 1, 0, 0, [7])), (99, (25, 102, 0, 112, 0, 0, 0, [])), (102, (4, 103, 0, 0, 0, 0, 0, [])), (103, (31, 106, 7, 1, 20, 0, 0, [])), (106, (2, 108, 5, 0, 0, 0, 0, [])), (108, (2, 109, 3, 0, 0, 0, 0, [])), (109, (42, 110, 0, 0, 0, 0, 0, [])), (110, (0, 111, 0, 0, 0, 1, 0, [])), (111, (53, 112, 1, 0, 0, 0, 0, [])), (112, (8, 115, 5, 0, 0, 1, 0, [])), (115, (26, 118, 0, 14, 0, 0, 0, [])), (118, (0, 119, 0, 0, 0, 0, 0, [])), (119, (53, 120, 1, 0, 0, 0, 0, []))], [(14, []), (58, [])])
def tx_Tape_new : Tx := ([(0, (4, 1, 0, 0, 0, 0, 0, [])), (1, (51, 4, 0, 0, 0, 0, 0, [])), (4, (4, 5, 0, 0, 0, 0, 0, [])), (5, (0, 8, 0, 0, 0, 1000, 0, [])), (8, (47, 10, 22, 0, 0, 0, 0, [])), (10, (35, 13, 8, 0, 22, 0, 0, [])), (13, (55, 14, 0, 0, 0, 0, 0, []))], [])
def tx_Tape_put : Tx := ([(0, (0, 2, 0, 0, 0, 56, 0, [])), (2, (5, 3, 3, 0, 0, 0, 0, [])), (3, (2, 4, 3, 0, 0, 0, 0, [])), (4, (25, 7, 2, 90, 0, 0, 0, [])), (7, (3, 8, 1, 0, 0, 0, 0, [])), (8, (2, 9, 3, 0, 0, 0, 0, [])), (9, (15, 10, 0, 0, 0, 0, 0, [])), (10, (19, 11, 0, 0, 0, 0, 0, [])), (11, (0, 14, 0, 0, 0, 255, 0, [])), (14, (9, 15, 3, 0, 0, 0, 0, [])), (15, (5, 17, 4, 0, 0, 0, 0, [])), (17, (2, 19, 4, 0, 0, 0, 0, [])), (19, (0, 21, 0, 0, 0, 10, 0, [])), (21, (24, 24, 0, 38, 0, 0, 0, [])), (24, (2, 26, 4, 0, 0, 0, 0, [])), (26, (0, 28, 0, 0, 0, 32, 0, [])), (28, (24, 31, 2, 42, 0, 0, 0, [])), (31, (2, 33, 4, 0, 0, 0, 0, [])), (33, (0, 35, 0, 0, 0, 126, 0, [])), (35, (24, 38, 4, 42, 0, 0, 0, [])), (38, (0, 39, 0, 0, 0, 1, 0, [])), (39, (26, 42, 0, 43, 0, 0, 0, [])), (42, (0, 43, 0, 0, 0, 0, 0, [])), (43, (5, 45, 5, 0, 0, 0, 0, [])), (45, (2, 47, 5, 0, 0, 0, 0, [])), (47, (25, 50, 0, 84, 0, 0, 0, [])), (50, (4, 51, 0, 0, 0, 0, 0, [])), (51, (29, 54, 8, 1, 0, 0, 0, [])), (54, (4, 55, 0, 0, 0, 0, 0, [])), (55, (31, 58, 8, 0, 22, 0, 0, [])), (58, (36, 59, 0, 0, 0, 0, 0, [])), (59, (24, 62, 3, 84, 0, 0, 0, [])), (62, (4, 63, 0, 0, 0, 0, 0, [])), (63, (31, 66, 8, 0, 22, 0, 0, [])), (66, (4, 67, 0, 0, 0, 0, 0, [])), (67, (29, 70, 8, 1, 0, 0, 0, [])), (70, (2, 72, 4, 0, 0, 0, 0, [])), (72, (20, 73, 0, 0, 0, 0, 0, [])), (73, (44, 74, 0, 0, 0, 0, 0, [])), (74, (4, 75, 0, 0, 0, 0, 0, [])), (75, (22, 76, 0, 0, 0, 0, 0, [])), (76, (29, 79, 8, 1, 0, 0, 0, [])), (79, (0, 80, 0, 0, 0, 1, 0, [])), (80, (9, 81, 0, 0, 0, 0, 0, [])), (81, (32, 84, 8, 1, 0, 0, 0, [])), (84, (8, 87, 3, 0, 0, -8, 0, [])), (87, (26, 90, 0, 3, 0, 0, 0, [])), (90, (55, 91, 0, 0, 0, 0, 0, []))], [(3, [2, 4, 5]), (43, [2, 5])])
def tx_Tape_rewind : Tx := ([(0, (4, 1, 0, 0, 0, 0, 0, [])), (1, (0, 2, 0, 0, 0, 0, 0, [])), (2, (32, 5, 8, 4, 0, 0, 0, [])), (5, (4, 6, 0, 0, 0, 0, 0, [])), (6, (50, 9, 69, 1, 0, 0, 0, [8])), (9, (55, 10, 0, 0, 0, 0, 0, []))], [])
def tx_Tape_advance : Tx := ([(0, (4, 1, 0, 0, 0, 0, 0, [])), (1, (4, 2, 0, 0, 0, 0, 0, [])), (2, (29, 5, 8, 4, 0, 0, 0, [])), (5, (32, 8, 8, 3, 0, 0, 0, [])), (8, (4, 9, 0, 0, 0, 0, 0, [])), (9, (29, 12, 8, 3, 0, 0, 0, [])), (12, (4, 13, 0, 0, 0, 0, 0, [])), (13, (29, 16, 8, 1, 0, 0, 0, [])), (16, (24, 19, 3, 47, 0, 0, 0, [])), (19, (4, 20, 0, 0, 0, 0, 0, [])), (20, (31, 23, 8, 0, 22, 0, 0, [])), (23, (4, 24, 0, 0, 0, 0, 0, [])), (24, (29, 27, 8, 3, 0, 0, 0, [])), (27, (39, 28, 0, 0, 0, 0, 0, [])), (28, (50, 31, 73, 1, 1, 0, 0, [])), (31, (25, 34, 0, 47, 0, 0, 0, [])), (34, (4, 35, 0, 0, 0, 0, 0, [])), (35, (22, 36, 0, 0, 0, 0, 0, [])), (36, (29, 39, 8, 3, 0, 0, 0, [])), (39, (0, 40, 0, 0, 0, 1, 0, [])), (40, (9, 41, 0, 0, 0, 0, 0, [])), (41, (32, 44, 8, 3, 0, 0, 0, [])), (44, (26, 47, 0, 8, 0, 0, 0, [])), (47, (4, 48, 0, 0, 0, 0, 0, [])), (48, (4, 49, 0, 0, 0, 0, 0, [])), (49, (29, 52, 8, 3, 0, 0, 0, [])), (52, (32, 55, 8, 4, 0, 0, 0, [])), (55, (4, 56, 0, 0, 0, 0, 0, [])), (56, (29, 59, 8, 3, 0, 0, 0, [])), (59, (4, 60, 0, 0, 0, 0, 0, [])), (60, (29, 63, 8, 1, 0, 0, 0, [])), (63, (24, 66, 2, 74, 0, 0, 0, [])), (66, (4, 67, 0, 0, 0, 0, 0, [])), (67, (0, 68, 0, 0, 0, 0, 0, [])), (68, (32, 71, 8, 2, 0, 0, 0, [])), (71, (26, 74, 0, 156, 0, 0, 0, [])), (74, (4, 75, 0, 0, 0, 0, 0, [])), (75, (31, 78, 8, 0, 22, 0, 0, [])), (78, (4, 79, 0, 0, 0, 0, 0, [])), (79, (29, 82, 8, 3, 0, 0, 0, [])), (82, (39, 83, 0, 0, 0, 0, 0, [])), (83, (50, 86, 74, 1, 1, 0, 0, [])), (86, (25, 89, 0, 96, 0, 0, 0, [])), (89, (4, 90, 0, 0, 0, 0, 0, [])), (90, (50, 93, 71, 1, 0, 0, 0, [8])), (93, (26, 96, 0, 156, 0, 0, 0, [])), (96, (4, 97, 0, 0, 0, 0, 0, [])), (97, (31, 100, 8, 0, 22, 0, 0, [])), (100, (4, 101, 0, 0, 0, 0, 0, [])), (101, (29, 104, 8, 3, 0, 0, 0, [])), (104, (39, 105, 0, 0, 0, 0, 0, [])), (105, (50, 108, 75, 1, 1, 0, 0, [])), (108, (25, 111, 0, 118, 0, 0, 0, [])), (111, (4, 112, 0, 0, 0, 0, 0, [])), (112, (50, 115, 72, 1, 0, 0, 0, [8])), (115, (26, 118, 0, 156, 0, 0, 0, [])), (118, (4, 119, 0, 0, 0, 0, 0, [])), (119, (31, 122, 8, 0, 22, 0, 0, [])), (122, (4, 123, 0, 0, 0, 0, 0, [])), (123, (29, 126, 8, 3, 0, 0, 0, [])), (126, (39, 127, 0, 0, 0, 0, 0, [])), (127, (5, 128, 1, 0, 0, 0, 0, [])), (128, (4, 129, 0, 0, 0, 0, 0, [])), (129, (59, 131, 0, 47, 0, 0, 0, [])), (131, (2, 132, 1, 0, 0, 0, 0, [])), (132, (50, 135, 246, 2, 1, 0, 0, [40])), (135, (25, 138, 2, 142, 0, 0, 0, [])), (138, (2, 139, 1, 0, 0, 0, 0, [])), (139, (26, 142, 0, 143, 0, 0, 0, [])), (142, (0, 143, 0, 0, 0, 1, 0, [])), (143, (32, 146, 8, 2, 0, 0, 0, [])), (146, (4, 147, 0, 0, 0, 0, 0, [])), (147, (22, 148, 0, 0, 0, 0, 0, [])), (148, (29, 151, 8, 4, 0, 0, 0, [])), (151, (0, 152, 0, 0, 0, 1, 0, [])), (152, (9, 153, 0, 0, 0, 0, 0, [])), (153, (32, 156, 8, 4, 0, 0, 0, [])), (156, (55, 157, 0, 0, 0, 0, 0, []))], [(8, [1]), (47, [1]), (143, [1])])
def tx_Tape_isWord : Tx := ([(0, (4, 1, 0, 0, 0, 0, 0, [])), (1, (29, 4, 8, 2, 0, 0, 0, [])), (4, (0, 5, 0, 0, 0, 2, 0, [])), (5, (24, 8, 1, 24, 0, 0, 0, [])), (8, (4, 9, 1, 0, 0, 0, 0, [])), (9, (50, 12, 242, 1, 1, 0, 0, [40])), (12, (4, 13, 0, 0, 0, 0, 0, [])), (13, (29, 16, 8, 4, 0, 0, 0, [])), (16, (4, 17, 0, 0, 0, 0, 0, [])), (17, (29, 20, 8, 3, 0, 0, 0, [])), (20, (9, 21, 1, 0, 0, 0, 0, [])), (21, (24, 24, 0, 26, 0, 0, 0, [])), (24, (0, 25, 0, 0, 0, 0, 0, [])), (25, (53, 26, 1, 0, 0, 0, 0, [])), (26, (0, 27, 0, 0, 0, 0, 0, [])), (27, (5, 28, 2, 0, 0, 0, 0, [])), (28, (2, 29, 2, 0, 0, 0, 0, [])), (29, (4, 30, 1, 0, 0, 0, 0, [])), (30, (50, 33, 242, 1, 1, 0, 0, [40])), (33, (24, 36, 3, 63, 0, 0, 0, [])), (36, (4, 37, 0, 0, 0, 0, 0, [])), (37, (31, 40, 8, 0, 22, 0, 0, [])), (40, (4, 41, 0, 0, 0, 0, 0, [])), (41, (29, 44, 8, 3, 0, 0, 0, [])), (44, (2, 45, 2, 0, 0, 0, 0, [])), (45, (9, 46, 0, 0, 0, 0, 0, [])), (46, (39, 47, 0, 0, 0, 0, 0, [])), (47, (4, 48, 1, 0, 0, 0, 0, [])), (48, (2, 49, 2, 0, 0, 0, 0, [])), (49, (50, 52, 245, 2, 1, 0, 0, [40])), (52, (24, 55, 0, 57, 0, 0, 0, [])), (55, (0, 56, 0, 0, 0, 0, 0, [])), (56, (53, 57, 1, 0, 0, 0, 0, [])), (57, (8, 60, 2, 0, 0, 1, 0, [])), (60, (26, 63, 0, 28, 0, 0, 0, [])), (63, (0, 64, 0, 0, 0, 1, 0, [])), (64, (53, 65, 1, 0, 0, 0, 0, []))], [(28, [])])
def tx_Tape_readWord : Tx := ([(0, (4, 1, 0, 0, 0, 0, 0, [])), (1, (29, 4, 8, 4, 0, 0, 0, [])), (4, (4, 5, 0, 0, 0, 0, 0, [])), (5, (29, 8, 8, 1, 0, 0, 0, [])), (8, (24, 11, 3, 39, 0, 0, 0, [])), (11, (4, 12, 0, 0, 0, 0, 0, [])), (12, (31, 15, 8, 0, 22, 0, 0, [])), (15, (4, 16, 0, 0, 0, 0, 0, [])), (16, (29, 19, 8, 4, 0, 0, 0, [])), (19, (39, 20, 0, 0, 0, 0, 0, [])), (20, (50, 23, 74, 1, 1, 0, 0, [])), (23, (25, 26, 0, 39, 0, 0, 0, [])), (26, (4, 27, 0, 0, 0, 0, 0, [])), (27, (22, 28, 0, 0, 0, 0, 0, [])), (28, (29, 31, 8, 4, 0, 0, 0, [])), (31, (0, 32, 0, 0, 0, 1, 0, [])), (32, (9, 33, 0, 0, 0, 0, 0, [])), (33, (32, 36, 8, 4, 0, 0, 0, [])), (36, (26, 39, 0, 0, 0, 0, 0, [])), (39, (4, 40, 0, 0, 0, 0, 0, [])), (40, (4, 41, 0, 0, 0, 0, 0, [])), (41, (29, 44, 8, 4, 0, 0, 0, [])), (44, (4, 45, 0, 0, 0, 0, 0, [])), (45, (29, 48, 8, 3, 0, 0, 0, [])), (48, (9, 49, 1, 0, 0, 0, 0, [])), (49, (0, 51, 0, 0, 0, 8, 0, [])), (51, (24, 54, 4, 58, 0, 0, 0, [])), (54, (0, 55, 0, 0, 0, 2, 0, [])), (55, (26, 58, 0, 59, 0, 0, 0, [])), (58, (0, 59, 0, 0, 0, 1, 0, [])), (59, (32, 62, 8, 2, 0, 0, 0, [])), (62, (55, 63, 0, 0, 0, 0, 0, []))], [(0, []), (39, [])])
def tx_Tape_readNumber : Tx := ([(0, (4, 1, 0, 0, 0, 0, 0, [])), (1, (0, 2, 0, 0, 0, 0, 0, [])), (2, (32, 5, 8, 5, 0, 0, 0, [])), (5, (4, 6, 0, 0, 0, 0, 0, [])), (6, (29, 9, 8, 4, 0, 0, 0, [])), (9, (4, 10, 0, 0, 0, 0, 0, [])), (10, (29, 13, 8, 1, 0, 0, 0, [])), (13, (24, 16, 3, 68, 0, 0, 0, [])), (16, (4, 17, 0, 0, 0, 0, 0, [])), (17, (31, 20, 8, 0, 22, 0, 0, [])), (20, (4, 21, 0, 0, 0, 0, 0, [])), (21, (29, 24, 8, 4, 0, 0, 0, [])), (24, (39, 25, 0, 0, 0, 0, 0, [])), (25, (50, 28, 75, 1, 1, 0, 0, [])), (28, (25, 31, 0, 68, 0, 0, 0, [])), (31, (4, 32, 0, 0, 0, 0, 0, [])), (32, (4, 33, 0, 0, 0, 0, 0, [])), (33, (29, 36, 8, 5, 0, 0, 0, [])), (36, (0, 38, 0, 0, 0, 10, 0, [])), (38, (9, 39, 2, 0, 0, 0, 0, [])), (39, (4, 40, 0, 0, 0, 0, 0, [])), (40, (31, 43, 8, 0, 22, 0, 0, [])), (43, (4, 44, 0, 0, 0, 0, 0, [])), (44, (29, 47, 8, 4, 0, 0, 0, [])), (47, (39, 48, 0, 0, 0, 0, 0, [])), (48, (9, 49, 0, 0, 0, 0, 0, [])), (49, (0, 51, 0, 0, 0, 48, 0, [])), (51, (9, 52, 1, 0, 0, 0, 0, [])), (52, (32, 55, 8, 5, 0, 0, 0, [])), (55, (4, 56, 0, 0, 0, 0, 0, [])), (56, (22, 57, 0, 0, 0, 0, 0, [])), (57, (29, 60, 8, 4, 0, 0, 0, [])), (60, (0, 61, 0, 0, 0, 1, 0, [])), (61, (9, 62, 0, 0, 0, 0, 0, [])), (62, (32, 65, 8, 4, 0, 0, 0, [])), (65, (26, 68, 0, 5, 0, 0, 0, [])), (68, (4, 69, 0, 0, 0, 0, 0, [])), (69, (4, 70, 0, 0, 0, 0, 0, [])), (70, (29, 73, 8, 4, 0, 0, 0, [])), (73, (4, 74, 0, 0, 0, 0, 0, [])), (74, (29, 77, 8, 3, 0, 0, 0, [])), (77, (9, 78, 1, 0, 0, 0, 0, [])), (78, (0, 79, 0, 0, 0, 4, 0, [])), (79, (24, 82, 4, 86, 0, 0, 0, [])), (82, (0, 83, 0, 0, 0, 3, 0, [])), (83, (26, 86, 0, 87, 0, 0, 0, [])), (86, (0, 87, 0, 0, 0, 1, 0, [])), (87, (32, 90, 8, 2, 0, 0, 0, [])), (90, (55, 91, 0, 0, 0, 0, 0, []))], [(5, []), (68, [])])
def tx_Tape_isBlank : Tx := ([(0, (2, 1, 0, 0, 0, 0, 0, [])), (1, (0, 3, 0, 0, 0, 10, 0, [])), (3, (24, 6, 0, 12, 0, 0, 0, [])), (6, (2, 7, 0, 0, 0, 0, 0, [])), (7, (0, 9, 0, 0, 0, 32, 0, [])), (9, (24, 12, 1, 16, 0, 0, 0, [])), (12, (0, 13, 0, 0, 0, 1, 0, [])), (13, (26, 16, 0, 17, 0, 0, 0, [])), (16, (0, 17, 0, 0, 0, 0, 0, [])), (17, (53, 18, 1, 0, 0, 0, 0, []))], [])
def tx_Tape_isLetter : Tx := ([(0, (2, 1, 0, 0, 0, 0, 0, [])), (1, (0, 3, 0, 0, 0, 97, 0, [])), (3, (24, 6, 2, 16, 0, 0, 0, [])), (6, (2, 7, 0, 0, 0, 0, 0, [])), (7, (0, 9, 0, 0, 0, 122, 0, [])), (9, (24, 12, 4, 16, 0, 0, 0, [])), (12, (0, 13, 0, 0, 0, 1, 0, [])), (13, (26, 16, 0, 17, 0, 0, 0, [])), (16, (0, 17, 0, 0, 0, 0, 0, [])), (17, (53, 18, 1, 0, 0, 0, 0, []))], [])
def tx_Tape_isDigit : Tx := ([(0, (2, 1, 0, 0, 0, 0, 0, [])), (1, (0, 3, 0, 0, 0, 48, 0, [])), (3, (24, 6, 2, 16, 0, 0, 0, [])), (6, (2, 7, 0, 0, 0, 0, 0, [])), (7, (0, 9, 0, 0, 0, 57, 0, [])), (9, (24, 12, 4, 16, 0, 0, 0, [])), (12, (0, 13, 0, 0, 0, 1, 0, [])), (13, (26, 16, 0, 17, 0, 0, 0, [])), (16, (0, 17, 0, 0, 0, 0, 0, [])), (17, (53, 18, 1, 0, 0, 0, 0, []))], [])
def tx_Throng_new : Tx := ([(0, (4, 1, 0, 0, 0, 0, 0, [])), (1, (51, 4, 0, 0, 0, 0, 0, [])), (4, (4, 5, 0, 0, 0, 0, 0, [])), (5, (0, 7, 0, 0, 0, 41, 0, [])), (7, (47, 9, 21, 0, 0, 0, 0, [])), (9, (35, 12, 9, 0, 21, 0, 0, [])), (12, (4, 13, 0, 0, 0, 0, 0, [])), (13, (49, 16, 0, 6, 0, 0, 0, [])), (16, (22, 17, 0, 0, 0, 0, 0, [])), (17, (50, 20, 0, 1, 0, 0, 0, [])), (20, (35, 23, 9, 2, 0, 0, 0, [])), (23, (4, 24, 0, 0, 0, 0, 0, [])), (24, (0, 26, 0, 0, 0, 6, 0, [])), (26, (47, 28, 20, 0, 0, 0, 0, [])), (28, (35, 31, 9, 3, 20, 0, 0, [])), (31, (4, 32, 0, 0, 0, 0, 0, [])), (32, (0, 34, 0, 0, 0, 6, 0, [])), (34, (47, 36, 20, 0, 0, 0, 0, [])), (36, (35, 39, 9, 4, 20, 0, 0, [])), (39, (4, 40, 0, 0, 0, 0, 0, [])), (40, (0, 42, 0, 0, 0, 6, 0, [])), (42, (47, 44, 21, 0, 0, 0, 0, [])), (44, (35, 47, 9, 5, 21, 0, 0, [])), (47, (4, 48, 0, 0, 0, 0, 0, [])), (48, (0, 50, 0, 0, 0, 64, 0, [])), (50, (47, 52, 21, 0, 0, 0, 0, [])), (52, (35, 55, 9, 6, 21, 0, 0, [])), (55, (55, 56, 0, 0, 0, 0, 0, []))], [])
def tx_Throng_forget : Tx := ([(0, (4, 1, 0, 0, 0, 0, 0, [])), (1, (1, 2, 0, 0, 0, 0, 0, [])), (2, (34, 5, 9, 7, 0, 0, 0, [])), (5, (55, 6, 0, 0, 0, 0, 0, []))], [])
def tx_Throng_goUp : Tx := ([(0, (4, 1, 0, 0, 0, 0, 0, [])), (1, (30, 4, 9, 7, 0, 0, 0, [])), (4, (3, 5, 2, 0, 0, 0, 0, [])), (5, (21, 6, 0, 0, 0, 0, 0, [])), (6, (25, 9, 1, 10, 0, 0, 0, [])), (9, (55, 10, 0, 0, 0, 0, 0, [])), (10, (4, 11, 0, 0, 0, 0, 0, [])), (11, (3, 12, 2, 0, 0, 0, 0, [])), (12, (34, 15, 9, 7, 0, 0, 0, [])), (15, (4, 16, 0, 0, 0, 0, 0, [])), (16, (4, 17, 1, 0, 0, 0, 0, [])), (17, (50, 20, 79, 2, 0, 0, 0, [9])), (20, (4, 21, 0, 0, 0, 0, 0, [])), (21, (31, 24, 9, 0, 21, 0, 0, [])), (24, (0, 25, 0, 0, 0, 0, 0, [])), (25, (3, 26, 2, 0, 0, 0, 0, [])), (26, (43, 27, 0, 0, 0, 0, 0, [])), (27, (4, 28, 0, 0, 0, 0, 0, [])), (28, (31, 31, 9, 6, 21, 0, 0, [])), (31, (0, 32, 0, 0, 0, 0, 0, [])), (32, (3, 33, 2, 0, 0, 0, 0, [])), (33, (43, 34, 0, 0, 0, 0, 0, [])), (34, (0, 35, 0, 0, 0, 0, 0, [])), (35, (5, 37, 4, 0, 0, 0, 0, [])), (37, (2, 39, 4, 0, 0, 0, 0, [])), (39, (4, 40, 1, 0, 0, 0, 0, [])), (40, (29, 43, 5, 7, 0, 0, 0, [])), (43, (24, 46, 3, 96, 0, 0, 0, [])), (46, (4, 47, 1, 0, 0, 0, 0, [])), (47, (29, 50, 5, 7, 0, 0, 0, [])), (50, (0, 51, 0, 0, 0, 1, 0, [])), (51, (9, 52, 1, 0, 0, 0, 0, [])), (52, (2, 54, 4, 0, 0, 0, 0, [])), (54, (4, 55, 1, 0, 0, 0, 0, [])), (55, (50, 58, 32, 1, 1, 0, 0, [5])), (58, (9, 59, 2, 0, 0, 0, 0, [])), (59, (50, 62, 241, 2, 1, 0, 0, [])), (62, (5, 64, 5, 0, 0, 0, 0, [])), (64, (2, 66, 5, 0, 0, 0, 0, [])), (66, (5, 68, 6, 0, 0, 0, 0, [])), (68, (2, 70, 6, 0, 0, 0, 0, [])), (70, (2, 72, 4, 0, 0, 0, 0, [])), (72, (24, 75, 2, 90, 0, 0, 0, [])), (75, (4, 76, 0, 0, 0, 0, 0, [])), (76, (4, 77, 1, 0, 0, 0, 0, [])), (77, (2, 79, 6, 0, 0, 0, 0, [])), (79, (2, 81, 4, 0, 0, 0, 0, [])), (81, (50, 84, 80, 4, 0, 0, 0, [9])), (84, (8, 87, 6, 0, 0, -1, 0, [])), (87, (26, 90, 0, 68, 0, 0, 0, [])), (90, (8, 93, 4, 0, 0, 1, 0, [])), (93, (26, 96, 0, 37, 0, 0, 0, [])), (96, (55, 97, 0, 0, 0, 0, 0, []))], [(37, [2, 3, 5, 6]), (68, [2, 3, 5])])
def tx_Throng_begin : Tx := ([(0, (4, 1, 0, 0, 0, 0, 0, [])), (1, (4, 2, 1, 0, 0, 0, 0, [])), (2, (29, 5, 5, 8, 0, 0, 0, [])), (5, (0, 6, 0, 0, 0, 1, 0, [])), (6, (9, 7, 0, 0, 0, 0, 0, [])), (7, (32, 10, 9, 8, 0, 0, 0, [])), (10, (4, 11, 0, 0, 0, 0, 0, [])), (11, (4, 12, 1, 0, 0, 0, 0, [])), (12, (50, 15, 33, 1, 1, 0, 0, [5])), (15, (32, 18, 9, 9, 0, 0, 0, [])), (18, (4, 19, 0, 0, 0, 0, 0, [])), (19, (4, 20, 1, 0, 0, 0, 0, [])), (20, (50, 23, 34, 1, 1, 0, 0, [5])), (23, (32, 26, 9, 10, 0, 0, 0, [])), (26, (4, 27, 1, 0, 0, 0, 0, [])), (27, (29, 30, 5, 7, 0, 0, 0, [])), (30, (4, 31, 0, 0, 0, 0, 0, [])), (31, (29, 34, 9, 8, 0, 0, 0, [])), (34, (9, 35, 2, 0, 0, 0, 0, [])), (35, (4, 36, 0, 0, 0, 0, 0, [])), (36, (29, 39, 9, 9, 0, 0, 0, [])), (39, (9, 40, 2, 0, 0, 0, 0, [])), (40, (4, 41, 0, 0, 0, 0, 0, [])), (41, (29, 44, 9, 10, 0, 0, 0, [])), (44, (9, 45, 2, 0, 0, 0, 0, [])), (45, (5, 46, 2, 0, 0, 0, 0, [])), (46, (2, 47, 2, 0, 0, 0, 0, [])), (47, (4, 48, 0, 0, 0, 0, 0, [])), (48, (31, 51, 9, 6, 21, 0, 0, [])), (51, (36, 52, 0, 0, 0, 0, 0, [])), (52, (24, 55, 5, 72, 0, 0, 0, [])), (55, (4, 56, 0, 0, 0, 0, 0, [])), (56, (2, 57, 2, 0, 0, 0, 0, [])), (57, (0, 58, 0, 0, 0, 2, 0, [])), (58, (4, 59, 0, 0, 0, 0, 0, [])), (59, (31, 62, 9, 6, 21, 0, 0, [])), (62, (36, 63, 0, 0, 0, 0, 0, [])), (63, (9, 64, 2, 0, 0, 0, 0, [])), (64, (50, 67, 240, 2, 1, 0, 0, [])), (67, (47, 69, 21, 0, 0, 0, 0, [])), (69, (35, 72, 9, 6, 21, 0, 0, [])), (72, (0, 73, 0, 0, 0, 0, 0, [])), (73, (5, 74, 3, 0, 0, 0, 0, [])), (74, (2, 75, 3, 0, 0, 0, 0, [])), (75, (4, 76, 0, 0, 0, 0, 0, [])), (76, (31, 79, 9, 6, 21, 0, 0, [])), (79, (36, 80, 0, 0, 0, 0, 0, [])), (80, (24, 83, 3, 96, 0, 0, 0, [])), (83, (4, 84, 0, 0, 0, 0, 0, [])), (84, (31, 87, 9, 6, 21, 0, 0, [])), (87, (2, 88, 3, 0, 0, 0, 0, [])), (88, (1, 89, 0, 0, 0, 0, 0, [])), (89, (43, 90, 0, 0, 0, 0, 0, [])), (90, (8, 93, 3, 0, 0, 1, 0, [])), (93, (26, 96, 0, 74, 0, 0, 0, [])), (96, (0, 97, 0, 0, 0, 0, 0, [])), (97, (5, 98, 3, 0, 0, 0, 0, [])), (98, (2, 99, 3, 0, 0, 0, 0, [])), (99, (4, 100, 0, 0, 0, 0, 0, [])), (100, (31, 103, 9, 0, 21, 0, 0, [])), (103, (36, 104, 0, 0, 0, 0, 0, [])), (104, (24, 107, 3, 120, 0, 0, 0, [])), (107, (4, 108, 0, 0, 0, 0, 0, [])), (108, (31, 111, 9, 0, 21, 0, 0, [])), (111, (2, 112, 3, 0, 0, 0, 0, [])), (112, (1, 113, 0, 0, 0, 0, 0, [])), (113, (43, 114, 0, 0, 0, 0, 0, [])), (114, (8, 117, 3, 0, 0, 1, 0, [])), (117, (26, 120, 0, 98, 0, 0, 0, [])), (120, (4, 121, 0, 0, 0, 0, 0, [])), (121, (1, 122, 0, 0, 0, 0, 0, [])), (122, (34, 125, 9, 1, 0, 0, 0, [])), (125, (55, 126, 0, 0, 0, 0, 0, []))], [(74, [1, 2]), (98, [1, 2])])
def tx_Throng_passStep : Tx := ([(0, (0, 1, 0, 0, 0, 0, 0, [])), (1, (5, 3, 4, 0, 0, 0, 0, [])), (3, (2, 5, 4, 0, 0, 0, 0, [])), (5, (4, 6, 0, 0, 0, 0, 0, [])), (6, (29, 9, 9, 8, 0, 0, 0, [])), (9, (24, 12, 3, 186, 0, 0, 0, [])), (12, (2, 14, 4, 0, 0, 0, 0, [])), (14, (4, 15, 1, 0, 0, 0, 0, [])), (15, (29, 18, 5, 8, 0, 0, 0, [])), (18, (24, 21, 4, 186, 0, 0, 0, [])), (21, (2, 23, 4, 0, 0, 0, 0, [])), (23, (25, 26, 1, 30, 0, 0, 0, [])), (26, (0, 27, 0, 0, 0, 0, 0, [])), (27, (26, 30, 0, 39, 0, 0, 0, [])), (30, (4, 31, 1, 0, 0, 0, 0, [])), (31, (31, 34, 5, 0, 20, 0, 0, [])), (34, (2, 36, 4, 0, 0, 0, 0, [])), (36, (0, 37, 0, 0, 0, 1, 0, [])), (37, (9, 38, 1, 0, 0, 0, 0, [])), (38, (37, 39, 0, 0, 0, 0, 0, [])), (39, (5, 41, 5, 0, 0, 0, 0, [])), (41, (0, 42, 0, 0, 0, 0, 0, [])), (42, (5, 44, 6, 0, 0, 0, 0, [])), (44, (0, 45, 0, 0, 0, 0, 0, [])), (45, (5, 47, 7, 0, 0, 0, 0, [])), (47, (2, 49, 7, 0, 0, 0, 0, [])), (49, (4, 50, 0, 0, 0, 0, 0, [])), (50, (29, 53, 9, 9, 0, 0, 0, [])), (53, (24, 56, 3, 180, 0, 0, 0, [])), (56, (0, 57, 0, 0, 0, 0, 0, [])), (57, (5, 59, 8, 0, 0, 0, 0, [])), (59, (2, 61, 8, 0, 0, 0, 0, [])), (61, (4, 62, 0, 0, 0, 0, 0, [])), (62, (29, 65, 9, 10, 0, 0, 0, [])), (65, (24, 68, 3, 174, 0, 0, 0, [])), (68, (4, 69, 0, 0, 0, 0, 0, [])), (69, (31, 72, 9, 2, 0, 0, 0, [])), (72, (2, 73, 2, 0, 0, 0, 0, [])), (73, (2, 74, 3, 0, 0, 0, 0, [])), (74, (2, 76, 5, 0, 0, 0, 0, [])), (76, (2, 78, 7, 0, 0, 0, 0, [])), (78, (2, 80, 8, 0, 0, 0, 0, [])), (80, (50, 83, 2, 6, 0, 0, 0, [0])), (83, (4, 84, 0, 0, 0, 0, 0, [])), (84, (4, 85, 1, 0, 0, 0, 0, [])), (85, (4, 86, 0, 0, 0, 0, 0, [])), (86, (31, 89, 9, 2, 0, 0, 0, [])), (89, (50, 92, 81, 3, 1, 0, 0, [9])), (92, (5, 94, 9, 0, 0, 0, 0, [])), (94, (2, 96, 9, 0, 0, 0, 0, [])), (96, (25, 99, 2, 168, 0, 0, 0, [])), (99, (2, 101, 9, 0, 0, 0, 0, [])), (101, (4, 102, 0, 0, 0, 0, 0, [])), (102, (31, 105, 9, 6, 21, 0, 0, [])), (105, (36, 106, 0, 0, 0, 0, 0, [])), (106, (24, 109, 3, 168, 0, 0, 0, [])), (109, (4, 110, 0, 0, 0, 0, 0, [])), (110, (31, 113, 9, 6, 21, 0, 0, [])), (113, (2, 115, 9, 0, 0, 0, 0, [])), (115, (38, 116, 0, 0, 0, 0, 0, [])), (116, (1, 117, 0, 0, 0, 0, 0, [])), (117, (21, 118, 0, 0, 0, 0, 0, [])), (118, (25, 121, 1, 124, 0, 0, 0, [])), (121, (26, 124, 0, 168, 0, 0, 0, [])), (124, (2, 126, 6, 0, 0, 0, 0, [])), (126, (25, 129, 1, 144, 0, 0, 0, [])), (129, (4, 130, 0, 0, 0, 0, 0, [])), (130, (31, 133, 9, 2, 0, 0, 0, [])), (133, (4, 134, 1, 0, 0, 0, 0, [])), (134, (4, 135, 0, 0, 0, 0, 0, [])), (135, (31, 138, 9, 3, 20, 0, 0, [])), (138, (50, 141, 8, 3, 0, 0, 0, [0])), (141, (0, 142, 0, 0, 0, 1, 0, [])), (142, (5, 144, 6, 0, 0, 0, 0, [])), (144, (4, 145, 0, 0, 0, 0, 0, [])), (145, (31, 148, 9, 6, 21, 0, 0, [])), (148, (2, 150, 9, 0, 0, 0, 0, [])), (150, (38, 151, 0, 0, 0, 0, 0, [])), (151, (6, 153, 10, 0, 0, 0, 0, [])), (153, (4, 154, 0, 0, 0, 0, 0, [])), (154, (31, 157, 9, 6, 21, 0, 0, [])), (157, (2, 159, 9, 0, 0, 0, 0, [])), (159, (1, 160, 0, 0, 0, 0, 0, [])), (160, (43, 161, 0, 0, 0, 0, 0, [])), (161, (4, 162, 0, 0, 0, 0, 0, [])), (162, (4, 163, 1, 0, 0, 0, 0, [])), (163, (3, 165, 10, 0, 0, 0, 0, [])), (165, (50, 168, 82, 3, 0, 0, 0, [9])), (168, (8, 171, 8, 0, 0, 1, 0, [])), (171, (26, 174, 0, 59, 0, 0, 0, [])), (174, (8, 177, 7, 0, 0, 1, 0, [])), (177, (26, 180, 0, 47, 0, 0, 0, [])), (180, (8, 183, 4, 0, 0, 1, 0, [])), (183, (26, 186, 0, 3, 0, 0, 0, [])), (186, (55, 187, 0, 0, 0, 0, 0, []))], [(3, [5, 6, 7, 8, 9, 10, 11]), (47, [8, 9, 10, 11]), (59, [9, 10, 11]), (68, [9, 10, 11]), (144, [10, 11])])
def tx_Throng_placeOf : Tx := ([(0, (4, 1, 2, 0, 0, 0, 0, [])), (1, (29, 4, 0, 3, 0, 0, 0, [])), (4, (25, 7, 2, 16, 0, 0, 0, [])), (7, (4, 8, 2, 0, 0, 0, 0, [])), (8, (29, 11, 0, 3, 0, 0, 0, [])), (11, (0, 13, 0, 0, 0, 12, 0, [])), (13, (24, 16, 5, 18, 0, 0, 0, [])), (16, (0, 17, 0, 0, 0, -1, 0, [])), (17, (53, 18, 0, 0, 0, 0, 0, [])), (18, (4, 19, 2, 0, 0, 0, 0, [])), (19, (29, 22, 0, 1, 0, 0, 0, [])), (22, (4, 23, 0, 0, 0, 0, 0, [])), (23, (29, 26, 9, 8, 0, 0, 0, [])), (26, (9, 27, 2, 0, 0, 0, 0, [])), (27, (4, 28, 1, 0, 0, 0, 0, [])), (28, (31, 31, 5, 1, 20, 0, 0, [])), (31, (4, 32, 2, 0, 0, 0, 0, [])), (32, (29, 35, 0, 3, 0, 0, 0, [])), (35, (37, 36, 0, 0, 0, 0, 0, [])), (36, (9, 37, 0, 0, 0, 0, 0, [])), (37, (5, 38, 3, 0, 0, 0, 0, [])), (38, (2, 39, 3, 0, 0, 0, 0, [])), (39, (4, 40, 0, 0, 0, 0, 0, [])), (40, (29, 43, 9, 9, 0, 0, 0, [])), (43, (9, 44, 2, 0, 0, 0, 0, [])), (44, (4, 45, 0, 0, 0, 0, 0, [])), (45, (29, 48, 9, 9, 0, 0, 0, [])), (48, (0, 49, 0, 0, 0, 1, 0, [])), (49, (24, 52, 5, 59, 0, 0, 0, [])), (52, (4, 53, 2, 0, 0, 0, 0, [])), (53, (29, 56, 0, 4, 0, 0, 0, [])), (56, (26, 59, 0, 60, 0, 0, 0, [])), (59, (0, 60, 0, 0, 0, 0, 0, [])), (60, (9, 61, 0, 0, 0, 0, 0, [])), (61, (5, 62, 3, 0, 0, 0, 0, [])), (62, (2, 63, 3, 0, 0, 0, 0, [])), (63, (4, 64, 0, 0, 0, 0, 0, [])), (64, (29, 67, 9, 10, 0, 0, 0, [])), (67, (9, 68, 2, 0, 0, 0, 0, [])), (68, (4, 69, 0, 0, 0, 0, 0, [])), (69, (29, 72, 9, 10, 0, 0, 0, [])), (72, (0, 73, 0, 0, 0, 1, 0, [])), (73, (24, 76, 5, 83, 0, 0, 0, [])), (76, (4, 77, 2, 0, 0, 0, 0, [])), (77, (29, 80, 0, 5, 0, 0, 0, [])), (80, (26, 83, 0, 84, 0, 0, 0, [])), (83, (0, 84, 0, 0, 0, 0, 0, [])), (84, (9, 85, 0, 0, 0, 0, 0, [])), (85, (53, 86, 0, 0, 0, 0, 0, []))], [(60, [1, 3])])
def tx_Throng_part : Tx := ([(0, (4, 1, 0, 0, 0, 0, 0, [])), (1, (31, 4, 9, 2, 0, 0, 0, [])), (4, (4, 5, 1, 0, 0, 0, 0, [])), (5, (4, 6, 0, 0, 0, 0, 0, [])), (6, (31, 9, 9, 3, 20, 0, 0, [])), (9, (4, 10, 0, 0, 0, 0, 0, [])), (10, (31, 13, 9, 4, 20, 0, 0, [])), (13, (50, 16, 9, 4, 1, 0, 0, [0])), (16, (5, 18, 4, 0, 0, 0, 0, [])), (18, (2, 20, 4, 0, 0, 0, 0, [])), (20, (25, 23, 4, 24, 0, 0, 0, [])), (23, (55, 24, 0, 0, 0, 0, 0, [])), (24, (3, 25, 2, 0, 0, 0, 0, [])), (25, (6, 27, 5, 0, 0, 0, 0, [])), (27, (0, 28, 0, 0, 0, -1, 0, [])), (28, (5, 30, 7, 0, 0, 0, 0, [])), (30, (0, 31, 0, 0, 0, 0, 0, [])), (31, (5, 33, 8, 0, 0, 0, 0, [])), (33, (2, 35, 8, 0, 0, 0, 0, [])), (35, (4, 36, 1, 0, 0, 0, 0, [])), (36, (29, 39, 5, 8, 0, 0, 0, [])), (39, (24, 42, 3, 111, 0, 0, 0, [])), (42, (2, 44, 8, 0, 0, 0, 0, [])), (44, (4, 45, 0, 0, 0, 0, 0, [])), (45, (31, 48, 9, 5, 21, 0, 0, [])), (48, (36, 49, 0, 0, 0, 0, 0, [])), (49, (24, 52, 3, 111, 0, 0, 0, [])), (52, (4, 53, 0, 0, 0, 0, 0, [])), (53, (31, 56, 9, 5, 21, 0, 0, [])), (56, (2, 58, 8, 0, 0, 0, 0, [])), (58, (3, 59, 2, 0, 0, 0, 0, [])), (59, (4, 60, 0, 0, 0, 0, 0, [])), (60, (31, 63, 9, 4, 20, 0, 0, [])), (63, (2, 65, 8, 0, 0, 0, 0, [])), (65, (37, 66, 0, 0, 0, 0, 0, [])), (66, (18, 67, 0, 0, 0, 0, 0, [])), (67, (13, 68, 2, 0, 0, 0, 0, [])), (68, (2, 70, 4, 0, 0, 0, 0, [])), (70, (18, 71, 0, 0, 0, 0, 0, [])), (71, (16, 72, 0, 0, 0, 0, 0, [])), (72, (43, 73, 0, 0, 0, 0, 0, [])), (73, (3, 75, 5, 0, 0, 0, 0, [])), (75, (4, 76, 0, 0, 0, 0, 0, [])), (76, (31, 79, 9, 5, 21, 0, 0, [])), (79, (2, 81, 8, 0, 0, 0, 0, [])), (81, (38, 82, 0, 0, 0, 0, 0, [])), (82, (13, 83, 1, 0, 0, 0, 0, [])), (83, (6, 85, 5, 0, 0, 0, 0, [])), (85, (2, 87, 7, 0, 0, 0, 0, [])), (87, (0, 88, 0, 0, 0, -1, 0, [])), (88, (24, 91, 1, 105, 0, 0, 0, [])), (91, (4, 92, 0, 0, 0, 0, 0, [])), (92, (31, 95, 9, 4, 20, 0, 0, [])), (95, (2, 97, 8, 0, 0, 0, 0, [])), (97, (37, 98, 0, 0, 0, 0, 0, [])), (98, (25, 101, 5, 105, 0, 0, 0, [])), (101, (2, 103, 8, 0, 0, 0, 0, [])), (103, (5, 105, 7, 0, 0, 0, 0, [])), (105, (8, 108, 8, 0, 0, 1, 0, [])), (108, (26, 111, 0, 33, 0, 0, 0, [])), (111, (0, 112, 0, 0, 0, 0, 0, [])), (112, (5, 114, 8, 0, 0, 0, 0, [])), (114, (2, 116, 8, 0, 0, 0, 0, [])), (116, (4, 117, 1, 0, 0, 0, 0, [])), (117, (29, 120, 5, 8, 0, 0, 0, [])), (120, (24, 123, 3, 178, 0, 0, 0, [])), (123, (2, 125, 8, 0, 0, 0, 0, [])), (125, (4, 126, 0, 0, 0, 0, 0, [])), (126, (31, 129, 9, 5, 21, 0, 0, [])), (129, (36, 130, 0, 0, 0, 0, 0, [])), (130, (24, 133, 3, 178, 0, 0, 0, [])), (133, (4, 134, 0, 0, 0, 0, 0, [])), (134, (4, 135, 1, 0, 0, 0, 0, [])), (135, (4, 136, 1, 0, 0, 0, 0, [])), (136, (31, 139, 5, 0, 20, 0, 0, [])), (139, (2, 141, 8, 0, 0, 0, 0, [])), (141, (37, 142, 0, 0, 0, 0, 0, [])), (142, (2, 144, 8, 0, 0, 0, 0, [])), (144, (2, 146, 7, 0, 0, 0, 0, [])), (146, (24, 149, 1, 162, 0, 0, 0, [])), (149, (4, 150, 0, 0, 0, 0, 0, [])), (150, (31, 153, 9, 5, 21, 0, 0, [])), (153, (2, 155, 8, 0, 0, 0, 0, [])), (155, (38, 156, 0, 0, 0, 0, 0, [])), (156, (3, 158, 5, 0, 0, 0, 0, [])), (158, (13, 159, 0, 0, 0, 0, 0, [])), (159, (26, 162, 0, 169, 0, 0, 0, [])), (162, (4, 163, 0, 0, 0, 0, 0, [])), (163, (31, 166, 9, 5, 21, 0, 0, [])), (166, (2, 168, 8, 0, 0, 0, 0, [])), (168, (38, 169, 0, 0, 0, 0, 0, [])), (169, (50, 172, 83, 4, 0, 0, 0, [9])), (172, (8, 175, 8, 0, 0, 1, 0, [])), (175, (26, 178, 0, 114, 0, 0, 0, [])), (178, (55, 179, 0, 0, 0, 0, 0, []))], [(33, [3, 6]), (42, [3, 6]), (114, [2, 3, 4, 6])])
def tx_Throng_send : Tx := ([(0, (3, 1, 3, 0, 0, 0, 0, [])), (1, (1, 2, 0, 0, 0, 0, 0, [])), (2, (21, 3, 0, 0, 0, 0, 0, [])), (3, (25, 6, 1, 7, 0, 0, 0, [])), (6, (55, 7, 0, 0, 0, 0, 0, [])), (7, (4, 8, 0, 0, 0, 0, 0, [])), (8, (31, 11, 9, 2, 0, 0, 0, [])), (11, (29, 14, 0, 1, 0, 0, 0, [])), (14, (5, 16, 5, 0, 0, 0, 0, [])), (16, (4, 17, 0, 0, 0, 0, 0, [])), (17, (31, 20, 9, 2, 0, 0, 0, [])), (20, (29, 23, 0, 2, 0, 0, 0, [])), (23, (5, 25, 6, 0, 0, 0, 0, [])), (25, (4, 26, 0, 0, 0, 0, 0, [])), (26, (31, 29, 9, 2, 0, 0, 0, [])), (29, (29, 32, 0, 3, 0, 0, 0, [])), (32, (5, 34, 7, 0, 0, 0, 0, [])), (34, (4, 35, 0, 0, 0, 0, 0, [])), (35, (31, 38, 9, 2, 0, 0, 0, [])), (38, (29, 41, 0, 4, 0, 0, 0, [])), (41, (5, 43, 8, 0, 0, 0, 0, [])), (43, (4, 44, 0, 0, 0, 0, 0, [])), (44, (31, 47, 9, 2, 0, 0, 0, [])), (47, (29, 50, 0, 5, 0, 0, 0, [])), (50, (5, 52, 9, 0, 0, 0, 0, [])), (52, (4, 53, 0, 0, 0, 0, 0, [])), (53, (31, 56, 9, 2, 0, 0, 0, [])), (56, (4, 57, 1, 0, 0, 0, 0, [])), (57, (2, 58, 2, 0, 0, 0, 0, [])), (58, (50, 61, 5, 3, 0, 0, 0, [0])), (61, (4, 62, 0, 0, 0, 0, 0, [])), (62, (31, 65, 9, 2, 0, 0, 0, [])), (65, (29, 68, 0, 1, 0, 0, 0, [])), (68, (4, 69, 0, 0, 0, 0, 0, [])), (69, (31, 72, 9, 0, 21, 0, 0, [])), (72, (36, 73, 0, 0, 0, 0, 0, [])), (73, (24, 76, 3, 92, 0, 0, 0, [])), (76, (4, 77, 0, 0, 0, 0, 0, [])), (77, (31, 80, 9, 0, 21, 0, 0, [])), (80, (4, 81, 0, 0, 0, 0, 0, [])), (81, (31, 84, 9, 2, 0, 0, 0, [])), (84, (29, 87, 0, 1, 0, 0, 0, [])), (87, (23, 88, 0, 0, 0, 0, 0, [])), (88, (38, 89, 0, 0, 0, 0, 0, [])), (89, (3, 90, 3, 0, 0, 0, 0, [])), (90, (13, 91, 0, 0, 0, 0, 0, [])), (91, (43, 92, 0, 0, 0, 0, 0, [])), (92, (4, 93, 0, 0, 0, 0, 0, [])), (93, (22, 94, 0, 0, 0, 0, 0, [])), (94, (30, 97, 9, 1, 0, 0, 0, [])), (97, (3, 98, 3, 0, 0, 0, 0, [])), (98, (13, 99, 0, 0, 0, 0, 0, [])), (99, (34, 102, 9, 1, 0, 0, 0, [])), (102, (4, 103, 0, 0, 0, 0, 0, [])), (103, (4, 104, 1, 0, 0, 0, 0, [])), (104, (4, 105, 0, 0, 0, 0, 0, [])), (105, (31, 108, 9, 2, 0, 0, 0, [])), (108, (50, 111, 81, 3, 1, 0, 0, [9])), (111, (5, 113, 10, 0, 0, 0, 0, [])), (113, (4, 114, 0, 0, 0, 0, 0, [])), (114, (31, 117, 9, 2, 0, 0, 0, [])), (117, (29, 120, 0, 1, 0, 0, 0, [])), (120, (4, 121, 1, 0, 0, 0, 0, [])), (121, (29, 124, 5, 7, 0, 0, 0, [])), (124, (24, 127, 3, 153, 0, 0, 0, [])), (127, (2, 129, 10, 0, 0, 0, 0, [])), (129, (25, 132, 2, 153, 0, 0, 0, [])), (132, (2, 134, 10, 0, 0, 0, 0, [])), (134, (4, 135, 0, 0, 0, 0, 0, [])), (135, (31, 138, 9, 6, 21, 0, 0, [])), (138, (36, 139, 0, 0, 0, 0, 0, [])), (139, (24, 142, 3, 153, 0, 0, 0, [])), (142, (4, 143, 0, 0, 0, 0, 0, [])), (143, (31, 146, 9, 6, 21, 0, 0, [])), (146, (2, 148, 10, 0, 0, 0, 0, [])), (148, (23, 149, 0, 0, 0, 0, 0, [])), (149, (38, 150, 0, 0, 0, 0, 0, [])), (150, (3, 151, 3, 0, 0, 0, 0, [])), (151, (13, 152, 0, 0, 0, 0, 0, [])), (152, (43, 153, 0, 0, 0, 0, 0, [])), (153, (4, 154, 0, 0, 0, 0, 0, [])), (154, (31, 157, 9, 2, 0, 0, 0, [])), (157, (2, 159, 5, 0, 0, 0, 0, [])), (159, (2, 161, 6, 0, 0, 0, 0, [])), (161, (2, 163, 7, 0, 0, 0, 0, [])), (163, (2, 165, 8, 0, 0, 0, 0, [])), (165, (2, 167, 9, 0, 0, 0, 0, [])), (167, (50, 170, 2, 6, 0, 0, 0, [0])), (170, (55, 171, 0, 0, 0, 0, 0, []))], [(92, [2, 4, 10]), (153, [1, 2, 3, 4, 10])])
def tx_Ways_new : Tx := ([(0, (4, 1, 0, 0, 0, 0, 0, [])), (1, (51, 4, 0, 0, 0, 0, 0, [])), (4, (4, 5, 0, 0, 0, 0, 0, [])), (5, (0, 7, 0, 0, 0, 13, 0, [])), (7, (47, 9, 20, 0, 0, 0, 0, [])), (9, (35, 12, 10, 0, 20, 0, 0, [])), (12, (4, 13, 0, 0, 0, 0, 0, [])), (13, (0, 15, 0, 0, 0, 41, 0, [])), (15, (47, 17, 20, 0, 0, 0, 0, [])), (17, (35, 20, 10, 1, 20, 0, 0, [])), (20, (4, 21, 0, 0, 0, 0, 0, [])), (21, (0, 23, 0, 0, 0, 64, 0, [])), (23, (47, 25, 21, 0, 0, 0, 0, [])), (25, (35, 28, 10, 2, 21, 0, 0, [])), (28, (4, 29, 0, 0, 0, 0, 0, [])), (29, (0, 31, 0, 0, 0, -4, 0, [])), (31, (32, 34, 10, 3, 0, 0, 0, [])), (34, (55, 35, 0, 0, 0, 0, 0, []))], [])
def tx_Ways_forget : Tx := ([(0, (4, 1, 0, 0, 0, 0, 0, [])), (1, (0, 3, 0, 0, 0, -4, 0, [])), (3, (32, 6, 10, 3, 0, 0, 0, [])), (6, (55, 7, 0, 0, 0, 0, 0, []))], [])
def tx_Ways_beginAll : Tx := ([(0, (4, 1, 0, 0, 0, 0, 0, [])), (1, (29, 4, 10, 3, 0, 0, 0, [])), (4, (0, 5, 0, 0, 0, -1, 0, [])), (5, (24, 8, 0, 22, 0, 0, 0, [])), (8, (4, 9, 0, 0, 0, 0, 0, [])), (9, (4, 10, 1, 0, 0, 0, 0, [])), (10, (0, 11, 0, 0, 0, -1, 0, [])), (11, (4, 12, 1, 0, 0, 0, 0, [])), (12, (29, 15, 5, 13, 0, 0, 0, [])), (15, (4, 16, 1, 0, 0, 0, 0, [])), (16, (29, 19, 5, 14, 0, 0, 0, [])), (19, (50, 22, 95, 5, 0, 0, 0, [10])), (22, (55, 23, 0, 0, 0, 0, 0, []))], [])
def tx_Ways_beginExactly : Tx := ([(0, (4, 1, 0, 0, 0, 0, 0, [])), (1, (29, 4, 10, 3, 0, 0, 0, [])), (4, (2, 5, 2, 0, 0, 0, 0, [])), (5, (24, 8, 0, 30, 0, 0, 0, [])), (8, (4, 9, 0, 0, 0, 0, 0, [])), (9, (4, 10, 1, 0, 0, 0, 0, [])), (10, (2, 11, 2, 0, 0, 0, 0, [])), (11, (4, 12, 1, 0, 0, 0, 0, [])), (12, (29, 15, 5, 13, 0, 0, 0, [])), (15, (2, 16, 2, 0, 0, 0, 0, [])), (16, (50, 19, 240, 2, 1, 0, 0, [])), (19, (4, 20, 1, 0, 0, 0, 0, [])), (20, (29, 23, 5, 14, 0, 0, 0, [])), (23, (2, 24, 2, 0, 0, 0, 0, [])), (24, (50, 27, 241, 2, 1, 0, 0, [])), (27, (50, 30, 95, 5, 0, 0, 0, [10])), (30, (55, 31, 0, 0, 0, 0, 0, []))], [])
def tx_Ways_beginGame : Tx := ([(0, (4, 1, 0, 0, 0, 0, 0, [])), (1, (29, 4, 10, 3, 0, 0, 0, [])), (4, (0, 6, 0, 0, 0, -3, 0, [])), (6, (24, 9, 0, 21, 0, 0, 0, [])), (9, (4, 10, 0, 0, 0, 0, 0, [])), (10, (4, 11, 1, 0, 0, 0, 0, [])), (11, (0, 13, 0, 0, 0, -3, 0, [])), (13, (0, 14, 0, 0, 0, 0, 0, [])), (14, (4, 15, 1, 0, 0, 0, 0, [])), (15, (29, 18, 5, 14, 0, 0, 0, [])), (18, (50, 21, 95, 5, 0, 0, 0, [10])), (21, (55, 22, 0, 0, 0, 0, 0, []))], [])
def tx_Ways_beginDusty : Tx := ([(0, (0, 1, 0, 0, 0, 0, 0, [])), (1, (5, 2, 3, 0, 0, 0, 0, [])), (2, (2, 3, 3, 0, 0, 0, 0, [])), (3, (4, 4, 0, 0, 0, 0, 0, [])), (4, (31, 7, 10, 1, 20, 0, 0, [])), (7, (36, 8, 0, 0, 0, 0, 0, [])), (8, (24, 11, 3, 32, 0, 0, 0, [])), (11, (2, 12, 3, 0, 0, 0, 0, [])), (12, (4, 13, 2, 0, 0, 0, 0, [])), (13, (36, 14, 0, 0, 0, 0, 0, [])), (14, (24, 17, 3, 32, 0, 0, 0, [])), (17, (4, 18, 0, 0, 0, 0, 0, [])), (18, (31, 21, 10, 1, 20, 0, 0, [])), (21, (2, 22, 3, 0, 0, 0, 0, [])), (22, (4, 23, 2, 0, 0, 0, 0, [])), (23, (2, 24, 3, 0, 0, 0, 0, [])), (24, (37, 25, 0, 0, 0, 0, 0, [])), (25, (42, 26, 0, 0, 0, 0, 0, [])), (26, (8, 29, 3, 0, 0, 1, 0, [])), (29, (26, 32, 0, 2, 0, 0, 0, [])), (32, (4, 33, 0, 0, 0, 0, 0, [])), (33, (4, 34, 1, 0, 0, 0, 0, [])), (34, (0, 36, 0, 0, 0, -2, 0, [])), (36, (4, 37, 1, 0, 0, 0, 0, [])), (37, (29, 40, 5, 13, 0, 0, 0, [])), (40, (4, 41, 1, 0, 0, 0, 0, [])), (41, (29, 44, 5, 14, 0, 0, 0, [])), (44, (50, 47, 95, 5, 0, 0, 0, [10])), (47, (55, 48, 0, 0, 0, 0, 0, []))], [(2, []), (32, [2, 3])])
def tx_Ways_from : Tx := ([(0, (2, 1, 3, 0, 0, 0, 0, [])), (1, (0, 3, 0, 0, 0, 40, 0, [])), (3, (24, 6, 5, 8, 0, 0, 0, [])), (6, (1, 7, 0, 0, 0, 0, 0, [])), (7, (54, 8, 0, 0, 0, 0, 0, [])), (8, (4, 9, 2, 0, 0, 0, 0, [])), (9, (29, 12, 0, 1, 0, 0, 0, [])), (12, (4, 13, 1, 0, 0, 0, 0, [])), (13, (29, 16, 5, 7, 0, 0, 0, [])), (16, (24, 19, 2, 34, 0, 0, 0, [])), (19, (4, 20, 0, 0, 0, 0, 0, [])), (20, (4, 21, 1, 0, 0, 0, 0, [])), (21, (4, 22, 2, 0, 0, 0, 0, [])), (22, (50, 25, 98, 3, 1, 0, 0, [10])), (25, (25, 28, 0, 32, 0, 0, 0, [])), (28, (1, 29, 0, 0, 0, 0, 1, [])), (29, (26, 32, 0, 33, 0, 0, 0, [])), (32, (1, 33, 0, 0, 0, 0, 0, [])), (33, (54, 34, 0, 0, 0, 0, 0, [])), (34, (4, 35, 0, 0, 0, 0, 0, [])), (35, (4, 36, 2, 0, 0, 0, 0, [])), (36, (50, 39, 97, 2, 1, 0, 0, [10])), (39, (5, 41, 4, 0, 0, 0, 0, [])), (41, (2, 43, 4, 0, 0, 0, 0, [])), (43, (25, 46, 2, 56, 0, 0, 0, [])), (46, (2, 48, 4, 0, 0, 0, 0, [])), (48, (4, 49, 0, 0, 0, 0, 0, [])), (49, (31, 52, 10, 2, 21, 0, 0, [])), (52, (36, 53, 0, 0, 0, 0, 0, [])), (53, (24, 56, 2, 58, 0, 0, 0, [])), (56, (1, 57, 0, 0, 0, 0, 0, [])), (57, (54, 58, 0, 0, 0, 0, 0, [])), (58, (4, 59, 0, 0, 0, 0, 0, [])), (59, (31, 62, 10, 2, 21, 0, 0, [])), (62, (2, 64, 4, 0, 0, 0, 0, [])), (64, (38, 65, 0, 0, 0, 0, 0, [])), (65, (1, 66, 0, 0, 0, 0, 0, [])), (66, (21, 67, 0, 0, 0, 0, 0, [])), (67, (25, 70, 2, 78, 0, 0, 0, [])), (70, (4, 71, 0, 0, 0, 0, 0, [])), (71, (31, 74, 10, 2, 21, 0, 0, [])), (74, (2, 76, 4, 0, 0, 0, 0, [])), (76, (38, 77, 0, 0, 0, 0, 0, [])), (77, (54, 78, 0, 0, 0, 0, 0, [])), (78, (1, 79, 0, 0, 0, 0, 0, [])), (79, (6, 81, 5, 0, 0, 0, 0, [])), (81, (0, 82, 0, 0, 0, 0, 0, [])), (82, (5, 84, 7, 0, 0, 0, 0, [])), (84, (2, 86, 7, 0, 0, 0, 0, [])), (86, (4, 87, 1, 0, 0, 0, 0, [])), (87, (29, 90, 5, 8, 0, 0, 0, [])), (90, (24, 93, 3, 120, 0, 0, 0, [])), (93, (3, 95, 5, 0, 0, 0, 0, [])), (95, (4, 96, 0, 0, 0, 0, 0, [])), (96, (4, 97, 1, 0, 0, 0, 0, [])), (97, (4, 98, 2, 0, 0, 0, 0, [])), (98, (4, 99, 1, 0, 0, 0, 0, [])), (99, (31, 102, 5, 0, 20, 0, 0, [])), (102, (2, 104, 7, 0, 0, 0, 0, [])), (104, (37, 105, 0, 0, 0, 0, 0, [])), (105, (2, 106, 3, 0, 0, 0, 0, [])), (106, (0, 107, 0, 0, 0, 1, 0, [])), (107, (9, 108, 0, 0, 0, 0, 0, [])), (108, (50, 111, 91, 5, 2, 0, 0, [10])), (111, (13, 112, 0, 0, 0, 0, 0, [])), (112, (6, 114, 5, 0, 0, 0, 0, [])), (114, (8, 117, 7, 0, 0, 1, 0, [])), (117, (26, 120, 0, 84, 0, 0, 0, [])), (120, (4, 121, 0, 0, 0, 0, 0, [])), (121, (31, 124, 10, 2, 21, 0, 0, [])), (124, (2, 126, 4, 0, 0, 0, 0, [])), (126, (3, 128, 5, 0, 0, 0, 0, [])), (128, (43, 129, 0, 0, 0, 0, 0, [])), (129, (3, 131, 5, 0, 0, 0, 0, [])), (131, (54, 132, 0, 0, 0, 0, 0, []))], [(8, [4, 5, 6, 7]), (84, [6])])
def tx_Ways_behind : Tx := ([(0, (4, 1, 0, 0, 0, 0, 0, [])), (1, (4, 2, 1, 0, 0, 0, 0, [])), (2, (4, 3, 2, 0, 0, 0, 0, [])), (3, (2, 4, 3, 0, 0, 0, 0, [])), (4, (50, 7, 99, 4, 1, 0, 0, [10])), (7, (25, 10, 1, 12, 0, 0, 0, [])), (10, (1, 11, 0, 0, 0, 0, 0, [])), (11, (54, 12, 0, 0, 0, 0, 0, [])), (12, (4, 13, 2, 0, 0, 0, 0, [])), (13, (4, 14, 1, 0, 0, 0, 0, [])), (14, (2, 15, 3, 0, 0, 0, 0, [])), (15, (50, 18, 5, 3, 0, 0, 0, [0])), (18, (4, 19, 0, 0, 0, 0, 0, [])), (19, (4, 20, 1, 0, 0, 0, 0, [])), (20, (4, 21, 2, 0, 0, 0, 0, [])), (21, (2, 23, 4, 0, 0, 0, 0, [])), (23, (50, 26, 90, 4, 2, 0, 0, [10])), (26, (6, 28, 5, 0, 0, 0, 0, [])), (28, (4, 29, 2, 0, 0, 0, 0, [])), (29, (4, 30, 1, 0, 0, 0, 0, [])), (30, (50, 33, 6, 2, 0, 0, 0, [0])), (33, (3, 35, 5, 0, 0, 0, 0, [])), (35, (54, 36, 0, 0, 0, 0, 0, []))], [])
def tx_Ways_ahead : Tx := ([(0, (1, 1, 0, 0, 0, 0, 0, [])), (1, (6, 3, 4, 0, 0, 0, 0, [])), (3, (0, 4, 0, 0, 0, 0, 0, [])), (4, (5, 6, 6, 0, 0, 0, 0, [])), (6, (2, 8, 6, 0, 0, 0, 0, [])), (8, (4, 9, 1, 0, 0, 0, 0, [])), (9, (29, 12, 5, 8, 0, 0, 0, [])), (12, (24, 15, 3, 51, 0, 0, 0, [])), (15, (4, 16, 1, 0, 0, 0, 0, [])), (16, (31, 19, 5, 0, 20, 0, 0, [])), (19, (2, 21, 6, 0, 0, 0, 0, [])), (21, (37, 22, 0, 0, 0, 0, 0, [])), (22, (2, 23, 3, 0, 0, 0, 0, [])), (23, (24, 26, 3, 51, 0, 0, 0, [])), (26, (3, 28, 4, 0, 0, 0, 0, [])), (28, (4, 29, 0, 0, 0, 0, 0, [])), (29, (4, 30, 1, 0, 0, 0, 0, [])), (30, (4, 31, 2, 0, 0, 0, 0, [])), (31, (4, 32, 1, 0, 0, 0, 0, [])), (32, (31, 35, 5, 0, 20, 0, 0, [])), (35, (2, 37, 6, 0, 0, 0, 0, [])), (37, (37, 38, 0, 0, 0, 0, 0, [])), (38, (0, 39, 0, 0, 0, 0, 0, [])), (39, (50, 42, 91, 5, 2, 0, 0, [10])), (42, (13, 43, 0, 0, 0, 0, 0, [])), (43, (6, 45, 4, 0, 0, 0, 0, [])), (45, (8, 48, 6, 0, 0, 1, 0, [])), (48, (26, 51, 0, 6, 0, 0, 0, [])), (51, (3, 53, 4, 0, 0, 0, 0, [])), (53, (54, 54, 0, 0, 0, 0, 0, []))], [(6, [5])])
def tx_Ways_strideAt : Tx := ([(0, (3, 1, 3, 0, 0, 0, 0, [])), (1, (6, 3, 6, 0, 0, 0, 0, [])), (3, (0, 4, 0, 0, 0, 0, 0, [])), (4, (5, 6, 8, 0, 0, 0, 0, [])), (6, (2, 8, 8, 0, 0, 0, 0, [])), (8, (2, 10, 5, 0, 0, 0, 0, [])), (10, (24, 13, 4, 130, 0, 0, 0, [])), (13, (2, 15, 8, 0, 0, 0, 0, [])), (15, (0, 17, 0, 0, 0, 40, 0, [])), (17, (24, 20, 3, 130, 0, 0, 0, [])), (20, (4, 21, 2, 0, 0, 0, 0, [])), (21, (29, 24, 0, 1, 0, 0, 0, [])), (24, (4, 25, 1, 0, 0, 0, 0, [])), (25, (29, 28, 5, 7, 0, 0, 0, [])), (28, (24, 31, 3, 130, 0, 0, 0, [])), (31, (0, 32, 0, 0, 0, -1, 0, [])), (32, (5, 34, 9, 0, 0, 0, 0, [])), (34, (0, 35, 0, 0, 0, 0, 0, [])), (35, (5, 37, 10, 0, 0, 0, 0, [])), (37, (2, 39, 10, 0, 0, 0, 0, [])), (39, (4, 40, 1, 0, 0, 0, 0, [])), (40, (29, 43, 5, 8, 0, 0, 0, [])), (43, (24, 46, 3, 101, 0, 0, 0, [])), (46, (2, 48, 9, 0, 0, 0, 0, [])), (48, (0, 49, 0, 0, 0, -1, 0, [])), (49, (24, 52, 1, 101, 0, 0, 0, [])), (52, (4, 53, 0, 0, 0, 0, 0, [])), (53, (4, 54, 1, 0, 0, 0, 0, [])), (54, (4, 55, 2, 0, 0, 0, 0, [])), (55, (4, 56, 1, 0, 0, 0, 0, [])), (56, (31, 59, 5, 0, 20, 0, 0, [])), (59, (2, 61, 10, 0, 0, 0, 0, [])), (61, (37, 62, 0, 0, 0, 0, 0, [])), (62, (0, 63, 0, 0, 0, 0, 0, [])), (63, (50, 66, 91, 5, 2, 0, 0, [10])), (66, (6, 68, 11, 0, 0, 0, 0, [])), (68, (3, 70, 6, 0, 0, 0, 0, [])), (70, (3, 72, 11, 0, 0, 0, 0, [])), (72, (21, 73, 0, 0, 0, 0, 0, [])), (73, (25, 76, 3, 88, 0, 0, 0, [])), (76, (4, 77, 1, 0, 0, 0, 0, [])), (77, (31, 80, 5, 0, 20, 0, 0, [])), (80, (2, 82, 10, 0, 0, 0, 0, [])), (82, (37, 83, 0, 0, 0, 0, 0, [])), (83, (5, 85, 9, 0, 0, 0, 0, [])), (85, (26, 88, 0, 95, 0, 0, 0, [])), (88, (3, 90, 6, 0, 0, 0, 0, [])), (90, (3, 92, 11, 0, 0, 0, 0, [])), (92, (13, 93, 1, 0, 0, 0, 0, [])), (93, (6, 95, 6, 0, 0, 0, 0, [])), (95, (8, 98, 10, 0, 0, 1, 0, [])), (98, (26, 101, 0, 37, 0, 0, 0, [])), (101, (2, 103, 8, 0, 0, 0, 0, [])), (103, (2, 105, 5, 0, 0, 0, 0, [])), (105, (24, 108, 0, 114, 0, 0, 0, [])), (108, (2, 110, 9, 0, 0, 0, 0, [])), (110, (0, 111, 0, 0, 0, -1, 0, [])), (111, (24, 114, 1, 117, 0, 0, 0, [])), (114, (2, 116, 9, 0, 0, 0, 0, [])), (116, (53, 117, 0, 0, 0, 0, 0, [])), (117, (4, 118, 2, 0, 0, 0, 0, [])), (118, (4, 119, 1, 0, 0, 0, 0, [])), (119, (2, 121, 9, 0, 0, 0, 0, [])), (121, (50, 124, 5, 3, 0, 0, 0, [0])), (124, (8, 127, 8, 0, 0, 1, 0, [])), (127, (26, 130, 0, 6, 0, 0, 0, [])), (130, (0, 131, 0, 0, 0, -1, 0, [])), (131, (53, 132, 0, 0, 0, 0, 0, []))], [(6, [3, 4, 7, 9, 10, 11, 12]), (37, [3, 4, 7, 11, 12]), (101, [3, 4, 7, 10, 11, 12])])
def tx_Ways_winning : Tx := ([(0, (2, 1, 3, 0, 0, 0, 0, [])), (1, (0, 3, 0, 0, 0, 40, 0, [])), (3, (24, 6, 5, 8, 0, 0, 0, [])), (6, (0, 7, 0, 0, 0, 0, 0, [])), (7, (53, 8, 0, 0, 0, 0, 0, [])), (8, (4, 9, 0, 0, 0, 0, 0, [])), (9, (4, 10, 2, 0, 0, 0, 0, [])), (10, (50, 13, 97, 2, 1, 0, 0, [10])), (13, (5, 15, 4, 0, 0, 0, 0, [])), (15, (2, 17, 4, 0, 0, 0, 0, [])), (17, (25, 20, 2, 30, 0, 0, 0, [])), (20, (2, 22, 4, 0, 0, 0, 0, [])), (22, (4, 23, 0, 0, 0, 0, 0, [])), (23, (31, 26, 10, 2, 21, 0, 0, [])), (26, (36, 27, 0, 0, 0, 0, 0, [])), (27, (24, 30, 2, 32, 0, 0, 0, [])), (30, (0, 31, 0, 0, 0, 0, 0, [])), (31, (53, 32, 0, 0, 0, 0, 0, [])), (32, (4, 33, 0, 0, 0, 0, 0, [])), (33, (31, 36, 10, 2, 21, 0, 0, [])), (36, (2, 38, 4, 0, 0, 0, 0, [])), (38, (38, 39, 0, 0, 0, 0, 0, [])), (39, (1, 40, 0, 0, 0, 0, 0, [])), (40, (21, 41, 0, 0, 0, 0, 0, [])), (41, (25, 44, 2, 53, 0, 0, 0, [])), (44, (4, 45, 0, 0, 0, 0, 0, [])), (45, (31, 48, 10, 2, 21, 0, 0, [])), (48, (2, 50, 4, 0, 0, 0, 0, [])), (50, (38, 51, 0, 0, 0, 0, 0, [])), (51, (19, 52, 0, 0, 0, 0, 0, [])), (52, (53, 53, 0, 0, 0, 0, 0, [])), (53, (0, 54, 0, 0, 0, 0, 0, [])), (54, (5, 56, 5, 0, 0, 0, 0, [])), (56, (0, 57, 0, 0, 0, 0, 0, [])), (57, (5, 59, 6, 0, 0, 0, 0, [])), (59, (2, 61, 6, 0, 0, 0, 0, [])), (61, (4, 62, 1, 0, 0, 0, 0, [])), (62, (29, 65, 5, 8, 0, 0, 0, [])), (65, (24, 68, 3, 141, 0, 0, 0, [])), (68, (2, 70, 5, 0, 0, 0, 0, [])), (70, (25, 73, 1, 141, 0, 0, 0, [])), (73, (4, 74, 1, 0, 0, 0, 0, [])), (74, (31, 77, 5, 0, 20, 0, 0, [])), (77, (2, 79, 6, 0, 0, 0, 0, [])), (79, (37, 80, 0, 0, 0, 0, 0, [])), (80, (5, 82, 7, 0, 0, 0, 0, [])), (82, (4, 83, 2, 0, 0, 0, 0, [])), (83, (4, 84, 1, 0, 0, 0, 0, [])), (84, (2, 86, 7, 0, 0, 0, 0, [])), (86, (50, 89, 4, 3, 1, 0, 0, [0])), (89, (25, 92, 0, 135, 0, 0, 0, [])), (92, (4, 93, 2, 0, 0, 0, 0, [])), (93, (4, 94, 1, 0, 0, 0, 0, [])), (94, (2, 96, 7, 0, 0, 0, 0, [])), (96, (50, 99, 5, 3, 0, 0, 0, [0])), (99, (4, 100, 2, 0, 0, 0, 0, [])), (100, (29, 103, 0, 1, 0, 0, 0, [])), (103, (4, 104, 1, 0, 0, 0, 0, [])), (104, (29, 107, 5, 7, 0, 0, 0, [])), (107, (24, 110, 3, 122, 0, 0, 0, [])), (110, (4, 111, 0, 0, 0, 0, 0, [])), (111, (4, 112, 1, 0, 0, 0, 0, [])), (112, (4, 113, 2, 0, 0, 0, 0, [])), (113, (2, 114, 3, 0, 0, 0, 0, [])), (114, (0, 115, 0, 0, 0, 1, 0, [])), (115, (9, 116, 0, 0, 0, 0, 0, [])), (116, (50, 119, 94, 4, 1, 0, 0, [10])), (119, (25, 122, 1, 127, 0, 0, 0, [])), (122, (2, 124, 7, 0, 0, 0, 0, [])), (124, (26, 127, 0, 128, 0, 0, 0, [])), (127, (0, 128, 0, 0, 0, 0, 0, [])), (128, (5, 130, 5, 0, 0, 0, 0, [])), (130, (4, 131, 2, 0, 0, 0, 0, [])), (131, (4, 132, 1, 0, 0, 0, 0, [])), (132, (50, 135, 6, 2, 0, 0, 0, [0])), (135, (8, 138, 6, 0, 0, 1, 0, [])), (138, (26, 141, 0, 59, 0, 0, 0, [])), (141, (4, 142, 0, 0, 0, 0, 0, [])), (142, (31, 145, 10, 2, 21, 0, 0, [])), (145, (2, 147, 4, 0, 0, 0, 0, [])), (147, (2, 149, 5, 0, 0, 0, 0, [])), (149, (18, 150, 0, 0, 0, 0, 0, [])), (150, (43, 151, 0, 0, 0, 0, 0, [])), (151, (2, 153, 5, 0, 0, 0, 0, [])), (153, (53, 154, 0, 0, 0, 0, 0, []))], [(59, [7]), (122, [5]), (141, [1, 2, 3, 6, 7])])
def tx_Ways_begin : Tx := ([(0, (4, 1, 0, 0, 0, 0, 0, [])), (1, (2, 2, 2, 0, 0, 0, 0, [])), (2, (32, 5, 10, 3, 0, 0, 0, [])), (5, (4, 6, 0, 0, 0, 0, 0, [])), (6, (2, 7, 3, 0, 0, 0, 0, [])), (7, (32, 10, 10, 4, 0, 0, 0, [])), (10, (4, 11, 0, 0, 0, 0, 0, [])), (11, (2, 13, 4, 0, 0, 0, 0, [])), (13, (32, 16, 10, 5, 0, 0, 0, [])), (16, (4, 17, 0, 0, 0, 0, 0, [])), (17, (4, 18, 0, 0, 0, 0, 0, [])), (18, (29, 21, 10, 4, 0, 0, 0, [])), (21, (0, 22, 0, 0, 0, 1, 0, [])), (22, (24, 25, 4, 36, 0, 0, 0, [])), (25, (4, 26, 0, 0, 0, 0, 0, [])), (26, (29, 29, 10, 5, 0, 0, 0, [])), (29, (4, 30, 1, 0, 0, 0, 0, [])), (30, (29, 33, 5, 7, 0, 0, 0, [])), (33, (24, 36, 3, 40, 0, 0, 0, [])), (36, (0, 37, 0, 0, 0, 1, 0, [])), (37, (26, 40, 0, 41, 0, 0, 0, [])), (40, (0, 41, 0, 0, 0, 0, 0, [])), (41, (33, 44, 10, 6, 0, 0, 0, [])), (44, (4, 45, 0, 0, 0, 0, 0, [])), (45, (4, 46, 1, 0, 0, 0, 0, [])), (46, (29, 49, 5, 12, 0, 0, 0, [])), (49, (0, 50, 0, 0, 0, -1, 0, [])), (50, (24, 53, 0, 63, 0, 0, 0, [])), (53, (2, 54, 2, 0, 0, 0, 0, [])), (54, (0, 56, 0, 0, 0, -3, 0, [])), (56, (24, 59, 0, 63, 0, 0, 0, [])), (59, (0, 60, 0, 0, 0, 1, 0, [])), (60, (26, 63, 0, 64, 0, 0, 0, [])), (63, (0, 64, 0, 0, 0, 0, 0, [])), (64, (33, 67, 10, 7, 0, 0, 0, [])), (67, (4, 68, 0, 0, 0, 0, 0, [])), (68, (4, 69, 1, 0, 0, 0, 0, [])), (69, (50, 72, 33, 1, 1, 0, 0, [5])), (72, (32, 75, 10, 9, 0, 0, 0, [])), (75, (4, 76, 0, 0, 0, 0, 0, [])), (76, (4, 77, 1, 0, 0, 0, 0, [])), (77, (50, 80, 34, 1, 1, 0, 0, [5])), (80, (32, 83, 10, 10, 0, 0, 0, [])), (83, (4, 84, 0, 0, 0, 0, 0, [])), (84, (4, 85, 1, 0, 0, 0, 0, [])), (85, (50, 88, 96, 2, 0, 0, 0, [10])), (88, (4, 89, 0, 0, 0, 0, 0, [])), (89, (29, 92, 10, 6, 0, 0, 0, [])), (92, (25, 95, 0, 111, 0, 0, 0, [])), (95, (4, 96, 1, 0, 0, 0, 0, [])), (96, (29, 99, 5, 7, 0, 0, 0, [])), (99, (4, 100, 1, 0, 0, 0, 0, [])), (100, (29, 103, 5, 7, 0, 0, 0, [])), (103, (0, 104, 0, 0, 0, 1, 0, [])), (104, (9, 105, 0, 0, 0, 0, 0, [])), (105, (9, 106, 2, 0, 0, 0, 0, [])), (106, (0, 107, 0, 0, 0, 2, 0, [])), (107, (10, 108, 0, 0, 0, 0, 0, [])), (108, (26, 111, 0, 131, 0, 0, 0, [])), (111, (4, 112, 0, 0, 0, 0, 0, [])), (112, (29, 115, 10, 7, 0, 0, 0, [])), (115, (25, 118, 0, 127, 0, 0, 0, [])), (118, (0, 119, 0, 0, 0, 2, 0, [])), (119, (4, 120, 1, 0, 0, 0, 0, [])), (120, (29, 123, 5, 7, 0, 0, 0, [])), (123, (9, 124, 2, 0, 0, 0, 0, [])), (124, (26, 127, 0, 131, 0, 0, 0, [])), (127, (4, 128, 1, 0, 0, 0, 0, [])), (128, (29, 131, 5, 7, 0, 0, 0, [])), (131, (5, 133, 5, 0, 0, 0, 0, [])), (133, (2, 135, 5, 0, 0, 0, 0, [])), (135, (4, 136, 0, 0, 0, 0, 0, [])), (136, (29, 139, 10, 8, 0, 0, 0, [])), (139, (9, 140, 2, 0, 0, 0, 0, [])), (140, (4, 141, 0, 0, 0, 0, 0, [])), (141, (29, 144, 10, 9, 0, 0, 0, [])), (144, (9, 145, 2, 0, 0, 0, 0, [])), (145, (4, 146, 0, 0, 0, 0, 0, [])), (146, (29, 149, 10, 10, 0, 0, 0, [])), (149, (9, 150, 2, 0, 0, 0, 0, [])), (150, (5, 152, 6, 0, 0, 0, 0, [])), (152, (2, 154, 6, 0, 0, 0, 0, [])), (154, (4, 155, 0, 0, 0, 0, 0, [])), (155, (31, 158, 10, 2, 21, 0, 0, [])), (158, (36, 159, 0, 0, 0, 0, 0, [])), (159, (24, 162, 5, 192, 0, 0, 0, [])), (162, (2, 164, 6, 0, 0, 0, 0, [])), (164, (0, 166, 126, 0, 0, 143500, 0, [])), (166, (24, 169, 4, 192, 0, 0, 0, [])), (169, (4, 170, 0, 0, 0, 0, 0, [])), (170, (2, 172, 6, 0, 0, 0, 0, [])), (172, (0, 173, 0, 0, 0, 2, 0, [])), (173, (4, 174, 0, 0, 0, 0, 0, [])), (174, (31, 177, 10, 2, 21, 0, 0, [])), (177, (36, 178, 0, 0, 0, 0, 0, [])), (178, (9, 179, 2, 0, 0, 0, 0, [])), (179, (0, 181, 126, 0, 0, 143500, 0, [])), (181, (50, 184, 241, 2, 1, 0, 0, [])), (184, (50, 187, 240, 2, 1, 0, 0, [])), (187, (47, 189, 21, 0, 0, 0, 0, [])), (189, (35, 192, 10, 2, 21, 0, 0, [])), (192, (0, 193, 0, 0, 0, 0, 0, [])), (193, (5, 195, 7, 0, 0, 0, 0, [])), (195, (2, 197, 7, 0, 0, 0, 0, [])), (197, (2, 199, 6, 0, 0, 0, 0, [])), (199, (24, 202, 3, 228, 0, 0, 0, [])), (202, (2, 204, 7, 0, 0, 0, 0, [])), (204, (4, 205, 0, 0, 0, 0, 0, [])), (205, (31, 208, 10, 2, 21, 0, 0, [])), (208, (36, 209, 0, 0, 0, 0, 0, [])), (209, (24, 212, 3, 228, 0, 0, 0, [])), (212, (4, 213, 0, 0, 0, 0, 0, [])), (213, (31, 216, 10, 2, 21, 0, 0, [])), (216, (2, 218, 7, 0, 0, 0, 0, [])), (218, (1, 221, 127, 0, 0, 0, -1, [])), (221, (43, 222, 0, 0, 0, 0, 0, [])), (222, (8, 225, 7, 0, 0, 1, 0, [])), (225, (26, 228, 0, 195, 0, 0, 0, [])), (228, (55, 229, 0, 0, 0, 0, 0, []))], [(41, [3, 4, 5, 6, 7]), (64, [2, 3, 4, 5, 6, 7]), (131, [1, 2, 3, 4, 5, 6, 7]), (195, [1, 2, 3, 4, 5])])
def tx_Ways_findLastKinds : Tx := ([(0, (4, 1, 0, 0, 0, 0, 0, [])), (1, (0, 2, 0, 0, 0, 1, 0, [])), (2, (32, 5, 10, 8, 0, 0, 0, [])), (5, (0, 6, 0, 0, 0, 0, 0, [])), (6, (5, 7, 2, 0, 0, 0, 0, [])), (7, (2, 8, 2, 0, 0, 0, 0, [])), (8, (0, 10, 0, 0, 0, 12, 0, [])), (10, (24, 13, 4, 68, 0, 0, 0, [])), (13, (4, 14, 0, 0, 0, 0, 0, [])), (14, (31, 17, 10, 0, 20, 0, 0, [])), (17, (2, 18, 2, 0, 0, 0, 0, [])), (18, (0, 19, 0, 0, 0, 0, 0, [])), (19, (42, 20, 0, 0, 0, 0, 0, [])), (20, (4, 21, 1, 0, 0, 0, 0, [])), (21, (2, 22, 2, 0, 0, 0, 0, [])), (22, (50, 25, 28, 2, 1, 0, 0, [5])), (25, (25, 28, 0, 62, 0, 0, 0, [])), (28, (4, 29, 1, 0, 0, 0, 0, [])), (29, (31, 32, 5, 3, 20, 0, 0, [])), (32, (2, 33, 2, 0, 0, 0, 0, [])), (33, (37, 34, 0, 0, 0, 0, 0, [])), (34, (4, 35, 1, 0, 0, 0, 0, [])), (35, (29, 38, 5, 9, 0, 0, 0, [])), (38, (9, 39, 3, 0, 0, 0, 0, [])), (39, (25, 42, 0, 62, 0, 0, 0, [])), (42, (4, 43, 0, 0, 0, 0, 0, [])), (43, (31, 46, 10, 0, 20, 0, 0, [])), (46, (2, 47, 2, 0, 0, 0, 0, [])), (47, (4, 48, 0, 0, 0, 0, 0, [])), (48, (29, 51, 10, 8, 0, 0, 0, [])), (51, (42, 52, 0, 0, 0, 0, 0, [])), (52, (4, 53, 0, 0, 0, 0, 0, [])), (53, (22, 54, 0, 0, 0, 0, 0, [])), (54, (29, 57, 10, 8, 0, 0, 0, [])), (57, (0, 58, 0, 0, 0, 1, 0, [])), (58, (9, 59, 0, 0, 0, 0, 0, [])), (59, (32, 62, 10, 8, 0, 0, 0, [])), (62, (8, 65, 2, 0, 0, 1, 0, [])), (65, (26, 68, 0, 7, 0, 0, 0, [])), (68, (55, 69, 0, 0, 0, 0, 0, []))], [(7, [])])
def tx_Ways_placeOf : Tx := ([(0, (4, 1, 1, 0, 0, 0, 0, [])), (1, (29, 4, 0, 3, 0, 0, 0, [])), (4, (25, 7, 2, 16, 0, 0, 0, [])), (7, (4, 8, 1, 0, 0, 0, 0, [])), (8, (29, 11, 0, 3, 0, 0, 0, [])), (11, (0, 13, 0, 0, 0, 12, 0, [])), (13, (24, 16, 5, 18, 0, 0, 0, [])), (16, (0, 17, 0, 0, 0, -1, 0, [])), (17, (53, 18, 0, 0, 0, 0, 0, [])), (18, (4, 19, 1, 0, 0, 0, 0, [])), (19, (29, 22, 0, 1, 0, 0, 0, [])), (22, (5, 23, 2, 0, 0, 0, 0, [])), (23, (4, 24, 0, 0, 0, 0, 0, [])), (24, (29, 27, 10, 6, 0, 0, 0, [])), (27, (25, 30, 0, 52, 0, 0, 0, [])), (30, (4, 31, 1, 0, 0, 0, 0, [])), (31, (29, 34, 0, 1, 0, 0, 0, [])), (34, (4, 35, 1, 0, 0, 0, 0, [])), (35, (29, 38, 0, 1, 0, 0, 0, [])), (38, (0, 39, 0, 0, 0, 1, 0, [])), (39, (9, 40, 0, 0, 0, 0, 0, [])), (40, (9, 41, 2, 0, 0, 0, 0, [])), (41, (0, 42, 0, 0, 0, 2, 0, [])), (42, (10, 43, 0, 0, 0, 0, 0, [])), (43, (4, 44, 1, 0, 0, 0, 0, [])), (44, (29, 47, 0, 2, 0, 0, 0, [])), (47, (9, 48, 0, 0, 0, 0, 0, [])), (48, (5, 49, 2, 0, 0, 0, 0, [])), (49, (26, 52, 0, 73, 0, 0, 0, [])), (52, (4, 53, 0, 0, 0, 0, 0, [])), (53, (29, 56, 10, 7, 0, 0, 0, [])), (56, (25, 59, 0, 73, 0, 0, 0, [])), (59, (0, 60, 0, 0, 0, 2, 0, [])), (60, (4, 61, 1, 0, 0, 0, 0, [])), (61, (29, 64, 0, 1, 0, 0, 0, [])), (64, (9, 65, 2, 0, 0, 0, 0, [])), (65, (4, 66, 1, 0, 0, 0, 0, [])), (66, (29, 69, 0, 2, 0, 0, 0, [])), (69, (0, 70, 0, 0, 0, 1, 0, [])), (70, (9, 71, 3, 0, 0, 0, 0, [])), (71, (9, 72, 0, 0, 0, 0, 0, [])), (72, (5, 73, 2, 0, 0, 0, 0, [])), (73, (2, 74, 2, 0, 0, 0, 0, [])), (74, (4, 75, 0, 0, 0, 0, 0, [])), (75, (29, 78, 10, 8, 0, 0, 0, [])), (78, (9, 79, 2, 0, 0, 0, 0, [])), (79, (4, 80, 0, 0, 0, 0, 0, [])), (80, (31, 83, 10, 0, 20, 0, 0, [])), (83, (4, 84, 1, 0, 0, 0, 0, [])), (84, (29, 87, 0, 3, 0, 0, 0, [])), (87, (37, 88, 0, 0, 0, 0, 0, [])), (88, (9, 89, 0, 0, 0, 0, 0, [])), (89, (5, 90, 2, 0, 0, 0, 0, [])), (90, (2, 91, 2, 0, 0, 0, 0, [])), (91, (4, 92, 0, 0, 0, 0, 0, [])), (92, (29, 95, 10, 9, 0, 0, 0, [])), (95, (9, 96, 2, 0, 0, 0, 0, [])), (96, (4, 97, 0, 0, 0, 0, 0, [])), (97, (29, 100, 10, 9, 0, 0, 0, [])), (100, (0, 101, 0, 0, 0, 1, 0, [])), (101, (24, 104, 5, 111, 0, 0, 0, [])), (104, (4, 105, 1, 0, 0, 0, 0, [])), (105, (29, 108, 0, 4, 0, 0, 0, [])), (108, (26, 111, 0, 112, 0, 0, 0, [])), (111, (0, 112, 0, 0, 0, 0, 0, [])), (112, (9, 113, 0, 0, 0, 0, 0, [])), (113, (5, 114, 2, 0, 0, 0, 0, [])), (114, (2, 115, 2, 0, 0, 0, 0, [])), (115, (4, 116, 0, 0, 0, 0, 0, [])), (116, (29, 119, 10, 10, 0, 0, 0, [])), (119, (9, 120, 2, 0, 0, 0, 0, [])), (120, (4, 121, 0, 0, 0, 0, 0, [])), (121, (29, 124, 10, 10, 0, 0, 0, [])), (124, (0, 125, 0, 0, 0, 1, 0, [])), (125, (24, 128, 5, 135, 0, 0, 0, [])), (128, (4, 129, 1, 0, 0, 0, 0, [])), (129, (29, 132, 0, 5, 0, 0, 0, [])), (132, (26, 135, 0, 136, 0, 0, 0, [])), (135, (0, 136, 0, 0, 0, 0, 0, [])), (136, (9, 137, 0, 0, 0, 0, 0, [])), (137, (53, 138, 0, 0, 0, 0, 0, []))], [(73, []), (112, [2])])
def tx_Ways_isEnd : Tx := ([(0, (4, 1, 2, 0, 0, 0, 0, [])), (1, (29, 4, 0, 2, 0, 0, 0, [])), (4, (4, 5, 0, 0, 0, 0, 0, [])), (5, (29, 8, 10, 4, 0, 0, 0, [])), (8, (24, 11, 2, 37, 0, 0, 0, [])), (11, (4, 12, 2, 0, 0, 0, 0, [])), (12, (29, 15, 0, 2, 0, 0, 0, [])), (15, (4, 16, 0, 0, 0, 0, 0, [])), (16, (29, 19, 10, 5, 0, 0, 0, [])), (19, (24, 22, 4, 37, 0, 0, 0, [])), (22, (4, 23, 1, 0, 0, 0, 0, [])), (23, (4, 24, 2, 0, 0, 0, 0, [])), (24, (29, 27, 0, 2, 0, 0, 0, [])), (27, (50, 30, 31, 2, 1, 0, 0, [5])), (30, (25, 33, 0, 37, 0, 0, 0, [])), (33, (0, 34, 0, 0, 0, 1, 0, [])), (34, (26, 37, 0, 38, 0, 0, 0, [])), (37, (0, 38, 0, 0, 0, 0, 0, [])), (38, (53, 39, 1, 0, 0, 0, 0, []))], [])
def tx_Ways_isOpen : Tx := ([(0, (4, 1, 2, 0, 0, 0, 0, [])), (1, (29, 4, 0, 2, 0, 0, 0, [])), (4, (4, 5, 0, 0, 0, 0, 0, [])), (5, (29, 8, 10, 5, 0, 0, 0, [])), (8, (24, 11, 3, 20, 0, 0, 0, [])), (11, (4, 12, 2, 0, 0, 0, 0, [])), (12, (4, 13, 1, 0, 0, 0, 0, [])), (13, (2, 14, 3, 0, 0, 0, 0, [])), (14, (50, 17, 4, 3, 1, 0, 0, [0])), (17, (25, 20, 1, 22, 0, 0, 0, [])), (20, (0, 21, 0, 0, 0, 0, 0, [])), (21, (53, 22, 1, 0, 0, 0, 0, [])), (22, (4, 23, 0, 0, 0, 0, 0, [])), (23, (29, 26, 10, 3, 0, 0, 0, [])), (26, (0, 28, 0, 0, 0, -2, 0, [])), (28, (24, 31, 1, 48, 0, 0, 0, [])), (31, (4, 32, 0, 0, 0, 0, 0, [])), (32, (4, 33, 2, 0, 0, 0, 0, [])), (33, (29, 36, 0, 1, 0, 0, 0, [])), (36, (4, 37, 2, 0, 0, 0, 0, [])), (37, (29, 40, 0, 1, 0, 0, 0, [])), (40, (2, 41, 3, 0, 0, 0, 0, [])), (41, (9, 42, 0, 0, 0, 0, 0, [])), (42, (50, 45, 100, 3, 1, 0, 0, [10])), (45, (25, 48, 0, 52, 0, 0, 0, [])), (48, (0, 49, 0, 0, 0, 1, 0, [])), (49, (26, 52, 0, 53, 0, 0, 0, [])), (52, (0, 53, 0, 0, 0, 0, 0, [])), (53, (53, 54, 1, 0, 0, 0, 0, []))], [])
def tx_Ways_agreesWithDust : Tx := ([(0, (2, 1, 1, 0, 0, 0, 0, [])), (1, (25, 4, 2, 23, 0, 0, 0, [])), (4, (2, 5, 2, 0, 0, 0, 0, [])), (5, (4, 6, 0, 0, 0, 0, 0, [])), (6, (31, 9, 10, 1, 20, 0, 0, [])), (9, (36, 10, 0, 0, 0, 0, 0, [])), (10, (24, 13, 3, 23, 0, 0, 0, [])), (13, (4, 14, 0, 0, 0, 0, 0, [])), (14, (31, 17, 10, 1, 20, 0, 0, [])), (17, (2, 18, 2, 0, 0, 0, 0, [])), (18, (37, 19, 0, 0, 0, 0, 0, [])), (19, (0, 20, 0, 0, 0, 2, 0, [])), (20, (24, 23, 1, 25, 0, 0, 0, [])), (23, (0, 24, 0, 0, 0, 0, 0, [])), (24, (53, 25, 1, 0, 0, 0, 0, [])), (25, (2, 26, 1, 0, 0, 0, 0, [])), (26, (0, 27, 0, 0, 0, 1, 0, [])), (27, (9, 28, 0, 0, 0, 0, 0, [])), (28, (5, 29, 3, 0, 0, 0, 0, [])), (29, (2, 30, 3, 0, 0, 0, 0, [])), (30, (2, 31, 2, 0, 0, 0, 0, [])), (31, (24, 34, 3, 52, 0, 0, 0, [])), (34, (4, 35, 0, 0, 0, 0, 0, [])), (35, (31, 38, 10, 1, 20, 0, 0, [])), (38, (2, 39, 3, 0, 0, 0, 0, [])), (39, (37, 40, 0, 0, 0, 0, 0, [])), (40, (0, 41, 0, 0, 0, 1, 0, [])), (41, (24, 44, 1, 46, 0, 0, 0, [])), (44, (0, 45, 0, 0, 0, 0, 0, [])), (45, (53, 46, 1, 0, 0, 0, 0, [])), (46, (8, 49, 3, 0, 0, 1, 0, [])), (49, (26, 52, 0, 29, 0, 0, 0, [])), (52, (0, 53, 0, 0, 0, 1, 0, [])), (53, (53, 54, 1, 0, 0, 0, 0, []))], [(29, [1])])
def tx_X_new : Tx := ([(0, (4, 1, 0, 0, 0, 0, 0, [])), (1, (51, 4, 0, 0, 0, 0, 0, [])), (4, (4, 5, 0, 0, 0, 0, 0, [])), (5, (49, 8, 6, 4, 0, 0, 0, [])), (8, (22, 9, 0, 0, 0, 0, 0, [])), (9, (50, 12, 38, 1, 0, 0, 0, [])), (12, (35, 15, 11, 0, 6, 0, 0, [])), (15, (4, 16, 0, 0, 0, 0, 0, [])), (16, (49, 19, 0, 6, 0, 0, 0, [])), (19, (22, 20, 0, 0, 0, 0, 0, [])), (20, (50, 23, 0, 1, 0, 0, 0, [])), (23, (35, 26, 11, 1, 0, 0, 0, [])), (26, (4, 27, 0, 0, 0, 0, 0, [])), (27, (49, 30, 0, 6, 0, 0, 0, [])), (30, (22, 31, 0, 0, 0, 0, 0, [])), (31, (50, 34, 0, 1, 0, 0, 0, [])), (34, (35, 37, 11, 2, 0, 0, 0, [])), (37, (4, 38, 0, 0, 0, 0, 0, [])), (38, (49, 41, 10, 11, 0, 0, 0, [])), (41, (22, 42, 0, 0, 0, 0, 0, [])), (42, (50, 45, 84, 1, 0, 0, 0, [])), (45, (35, 48, 11, 3, 10, 0, 0, [])), (48, (4, 49, 0, 0, 0, 0, 0, [])), (49, (49, 52, 9, 11, 0, 0, 0, [])), (52, (22, 53, 0, 0, 0, 0, 0, [])), (53, (50, 56, 76, 1, 0, 0, 0, [])), (56, (35, 59, 11, 4, 9, 0, 0, [])), (59, (4, 60, 0, 0, 0, 0, 0, [])), (60, (49, 63, 7, 3, 0, 0, 0, [])), (63, (22, 64, 0, 0, 0, 0, 0, [])), (64, (50, 67, 61, 1, 0, 0, 0, [])), (67, (35, 70, 11, 5, 7, 0, 0, [])), (70, (4, 71, 0, 0, 0, 0, 0, [])), (71, (49, 74, 3, 1, 0, 0, 0, [])), (74, (22, 75, 0, 0, 0, 0, 0, [])), (75, (50, 78, 16, 1, 0, 0, 0, [])), (78, (35, 81, 11, 6, 3, 0, 0, [])), (81, (4, 82, 0, 0, 0, 0, 0, [])), (82, (49, 85, 4, 3, 0, 0, 0, [])), (85, (22, 86, 0, 0, 0, 0, 0, [])), (86, (50, 89, 20, 1, 0, 0, 0, [])), (89, (35, 92, 11, 7, 4, 0, 0, [])), (92, (4, 93, 0, 0, 0, 0, 0, [])), (93, (0, 94, 0, 0, 0, 4, 0, [])), (94, (48, 97, 0, 0, 0, 0, 0, [])), (97, (35, 100, 11, 8, 24, 0, 0, [])), (100, (0, 101, 0, 0, 0, 0, 0, [])), (101, (5, 102, 1, 0, 0, 0, 0, [])), (102, (2, 103, 1, 0, 0, 0, 0, [])), (103, (0, 104, 0, 0, 0, 4, 0, [])), (104, (24, 107, 3, 126, 0, 0, 0, [])), (107, (4, 108, 0, 0, 0, 0, 0, [])), (108, (31, 111, 11, 8, 24, 0, 0, [])), (111, (2, 112, 1, 0, 0, 0, 0, [])), (112, (49, 115, 1, 3, 0, 0, 0, [])), (115, (22, 116, 0, 0, 0, 0, 0, [])), (116, (50, 119, 10, 1, 0, 0, 0, [])), (119, (46, 120, 0, 0, 0, 0, 0, [])), (120, (8, 123, 1, 0, 0, 1, 0, [])), (123, (26, 126, 0, 102, 0, 0, 0, [])), (126, (4, 127, 0, 0, 0, 0, 0, [])), (127, (0, 129, 0, 0, 0, 41, 0, [])), (129, (47, 131, 20, 0, 0, 0, 0, [])), (131, (35, 134, 11, 9, 20, 0, 0, [])), (134, (4, 135, 0, 0, 0, 0, 0, [])), (135, (0, 137, 0, 0, 0, 6, 0, [])), (137, (47, 139, 20, 0, 0, 0, 0, [])), (139, (35, 142, 11, 10, 20, 0, 0, [])), (142, (4, 143, 0, 0, 0, 0, 0, [])), (143, (49, 146, 5, 17, 0, 0, 0, [])), (146, (22, 147, 0, 0, 0, 0, 0, [])), (147, (50, 150, 24, 1, 0, 0, 0, [])), (150, (35, 153, 11, 11, 5, 0, 0, [])), (153, (4, 154, 0, 0, 0, 0, 0, [])), (154, (49, 157, 5, 17, 0, 0, 0, [])), (157, (22, 158, 0, 0, 0, 0, 0, [])), (158, (50, 161, 24, 1, 0, 0, 0, [])), (161, (35, 164, 11, 12, 5, 0, 0, [])), (164, (4, 165, 0, 0, 0, 0, 0, [])), (165, (31, 168, 11, 11, 5, 0, 0, [])), (168, (50, 171, 25, 1, 0, 0, 0, [5])), (171, (4, 172, 0, 0, 0, 0, 0, [])), (172, (31, 175, 11, 11, 5, 0, 0, [])), (175, (50, 178, 26, 1, 0, 0, 0, [5])), (178, (55, 179, 0, 0, 0, 0, 0, []))], [(102, [])])
def tx_X_feed : Tx := ([(0, (4, 1, 0, 0, 0, 0, 0, [])), (1, (31, 4, 11, 0, 6, 0, 0, [])), (4, (31, 7, 6, 0, 8, 0, 0, [])), (7, (3, 8, 1, 0, 0, 0, 0, [])), (8, (50, 11, 67, 2, 0, 0, 0, [8])), (11, (4, 12, 0, 0, 0, 0, 0, [])), (12, (31, 15, 11, 0, 6, 0, 0, [])), (15, (31, 18, 6, 0, 8, 0, 0, [])), (18, (3, 19, 3, 0, 0, 0, 0, [])), (19, (50, 22, 67, 2, 0, 0, 0, [8])), (22, (4, 23, 0, 0, 0, 0, 0, [])), (23, (31, 26, 11, 0, 6, 0, 0, [])), (26, (31, 29, 6, 0, 8, 0, 0, [])), (29, (3, 31, 5, 0, 0, 0, 0, [])), (31, (50, 34, 67, 2, 0, 0, 0, [8])), (34, (4, 35, 0, 0, 0, 0, 0, [])), (35, (31, 38, 11, 0, 6, 0, 0, [])), (38, (31, 41, 6, 0, 8, 0, 0, [])), (41, (29, 44, 8, 1, 0, 0, 0, [])), (44, (53, 45, 0, 0, 0, 0, 0, []))], [])
def tx_X_stair : Tx := ([(0, (4, 1, 0, 0, 0, 0, 0, [])), (1, (31, 4, 11, 0, 6, 0, 0, [])), (4, (4, 5, 0, 0, 0, 0, 0, [])), (5, (31, 8, 11, 12, 5, 0, 0, [])), (8, (50, 11, 39, 2, 1, 0, 0, [6])), (11, (5, 12, 1, 0, 0, 0, 0, [])), (12, (2, 13, 1, 0, 0, 0, 0, [])), (13, (25, 16, 1, 38, 0, 0, 0, [])), (16, (4, 17, 0, 0, 0, 0, 0, [])), (17, (31, 20, 11, 11, 5, 0, 0, [])), (20, (7, 21, 2, 0, 0, 0, 0, [])), (21, (4, 22, 0, 0, 0, 0, 0, [])), (22, (4, 23, 0, 0, 0, 0, 0, [])), (23, (31, 26, 11, 12, 5, 0, 0, [])), (26, (35, 29, 11, 11, 5, 0, 0, [])), (29, (4, 30, 0, 0, 0, 0, 0, [])), (30, (4, 31, 2, 0, 0, 0, 0, [])), (31, (35, 34, 11, 12, 5, 0, 0, [])), (34, (4, 35, 0, 0, 0, 0, 0, [])), (35, (50, 38, 129, 1, 0, 0, 0, [11])), (38, (2, 39, 1, 0, 0, 0, 0, [])), (39, (53, 40, 0, 0, 0, 0, 0, []))], [])
def tx_X_step : Tx := ([(0, (2, 1, 1, 0, 0, 0, 0, [])), (1, (25, 4, 2, 15, 0, 0, 0, [])), (4, (2, 5, 1, 0, 0, 0, 0, [])), (5, (4, 6, 0, 0, 0, 0, 0, [])), (6, (31, 9, 11, 11, 5, 0, 0, [])), (9, (29, 12, 5, 7, 0, 0, 0, [])), (12, (24, 15, 5, 17, 0, 0, 0, [])), (15, (0, 16, 0, 0, 0, -1, 0, [])), (16, (53, 17, 0, 0, 0, 0, 0, [])), (17, (2, 18, 2, 0, 0, 0, 0, [])), (18, (27, 44, 0, 71, 0, 0, 0, [44, 54, 64])), (44, (4, 45, 0, 0, 0, 0, 0, [])), (45, (31, 48, 11, 11, 5, 0, 0, [])), (48, (31, 51, 5, 2, 20, 0, 0, [])), (51, (2, 52, 1, 0, 0, 0, 0, [])), (52, (37, 53, 0, 0, 0, 0, 0, [])), (53, (53, 54, 0, 0, 0, 0, 0, [])), (54, (4, 55, 0, 0, 0, 0, 0, [])), (55, (31, 58, 11, 11, 5, 0, 0, [])), (58, (31, 61, 5, 4, 20, 0, 0, [])), (61, (2, 62, 1, 0, 0, 0, 0, [])), (62, (37, 63, 0, 0, 0, 0, 0, [])), (63, (53, 64, 0, 0, 0, 0, 0, [])), (64, (4, 65, 0, 0, 0, 0, 0, [])), (65, (31, 68, 11, 9, 20, 0, 0, [])), (68, (2, 69, 1, 0, 0, 0, 0, [])), (69, (37, 70, 0, 0, 0, 0, 0, [])), (70, (53, 71, 0, 0, 0, 0, 0, [])), (71, (0, 72, 0, 0, 0, -1, 0, [])), (72, (53, 73, 0, 0, 0, 0, 0, []))], [])
def tx_X_may : Tx := ([(0, (4, 1, 0, 0, 0, 0, 0, [])), (1, (31, 4, 11, 1, 0, 0, 0, [])), (4, (4, 5, 0, 0, 0, 0, 0, [])), (5, (31, 8, 11, 11, 5, 0, 0, [])), (8, (2, 9, 1, 0, 0, 0, 0, [])), (9, (50, 12, 4, 3, 1, 0, 0, [0])), (12, (53, 13, 1, 0, 0, 0, 0, []))], [])
def tx_X_stride : Tx := ([(0, (4, 1, 0, 0, 0, 0, 0, [])), (1, (31, 4, 11, 1, 0, 0, 0, [])), (4, (4, 5, 0, 0, 0, 0, 0, [])), (5, (31, 8, 11, 11, 5, 0, 0, [])), (8, (2, 9, 1, 0, 0, 0, 0, [])), (9, (50, 12, 4, 3, 1, 0, 0, [0])), (12, (25, 15, 1, 17, 0, 0, 0, [])), (15, (0, 16, 0, 0, 0, 0, 0, [])), (16, (53, 17, 1, 0, 0, 0, 0, [])), (17, (4, 18, 0, 0, 0, 0, 0, [])), (18, (31, 21, 11, 1, 0, 0, 0, [])), (21, (4, 22, 0, 0, 0, 0, 0, [])), (22, (31, 25, 11, 11, 5, 0, 0, [])), (25, (2, 26, 1, 0, 0, 0, 0, [])), (26, (50, 29, 5, 3, 0, 0, 0, [0])), (29, (0, 30, 0, 0, 0, 1, 0, [])), (30, (53, 31, 1, 0, 0, 0, 0, []))], [])
def tx_X_back : Tx := ([(0, (4, 1, 0, 0, 0, 0, 0, [])), (1, (31, 4, 11, 1, 0, 0, 0, [])), (4, (29, 7, 0, 2, 0, 0, 0, [])), (7, (25, 10, 1, 12, 0, 0, 0, [])), (10, (0, 11, 0, 0, 0, 0, 0, [])), (11, (53, 12, 1, 0, 0, 0, 0, [])), (12, (2, 13, 1, 0, 0, 0, 0, [])), (13, (25, 16, 0, 26, 0, 0, 0, [])), (16, (4, 17, 0, 0, 0, 0, 0, [])), (17, (31, 20, 11, 1, 0, 0, 0, [])), (20, (50, 23, 1, 1, 0, 0, 0, [0])), (23, (26, 26, 0, 37, 0, 0, 0, [])), (26, (4, 27, 0, 0, 0, 0, 0, [])), (27, (31, 30, 11, 1, 0, 0, 0, [])), (30, (4, 31, 0, 0, 0, 0, 0, [])), (31, (31, 34, 11, 11, 5, 0, 0, [])), (34, (50, 37, 6, 2, 0, 0, 0, [0])), (37, (0, 38, 0, 0, 0, 1, 0, [])), (38, (53, 39, 1, 0, 0, 0, 0, []))], [])
def tx_X_taken : Tx := ([(0, (2, 1, 1, 0, 0, 0, 0, [])), (1, (25, 4, 2, 27, 0, 0, 0, [])), (4, (2, 5, 1, 0, 0, 0, 0, [])), (5, (4, 6, 0, 0, 0, 0, 0, [])), (6, (31, 9, 11, 1, 0, 0, 0, [])), (9, (29, 12, 0, 2, 0, 0, 0, [])), (12, (24, 15, 3, 27, 0, 0, 0, [])), (15, (4, 16, 0, 0, 0, 0, 0, [])), (16, (31, 19, 11, 1, 0, 0, 0, [])), (19, (31, 22, 0, 0, 20, 0, 0, [])), (22, (2, 23, 1, 0, 0, 0, 0, [])), (23, (37, 24, 0, 0, 0, 0, 0, [])), (24, (26, 27, 0, 28, 0, 0, 0, [])), (27, (0, 28, 0, 0, 0, -1, 0, [])), (28, (53, 29, 0, 0, 0, 0, 0, []))], [])
def tx_X_lawful : Tx := ([(0, (4, 1, 0, 0, 0, 0, 0, [])), (1, (31, 4, 11, 1, 0, 0, 0, [])), (4, (29, 7, 0, 1, 0, 0, 0, [])), (7, (4, 8, 0, 0, 0, 0, 0, [])), (8, (31, 11, 11, 11, 5, 0, 0, [])), (11, (29, 14, 5, 7, 0, 0, 0, [])), (14, (24, 17, 3, 19, 0, 0, 0, [])), (17, (0, 18, 0, 0, 0, -1, 0, [])), (18, (53, 19, 0, 0, 0, 0, 0, [])), (19, (4, 20, 0, 0, 0, 0, 0, [])), (20, (31, 23, 11, 11, 5, 0, 0, [])), (23, (4, 24, 0, 0, 0, 0, 0, [])), (24, (31, 27, 11, 1, 0, 0, 0, [])), (27, (29, 30, 0, 2, 0, 0, 0, [])), (30, (50, 33, 31, 2, 1, 0, 0, [5])), (33, (25, 36, 1, 38, 0, 0, 0, [])), (36, (0, 37, 0, 0, 0, 1, 0, [])), (37, (53, 38, 0, 0, 0, 0, 0, [])), (38, (4, 39, 0, 0, 0, 0, 0, [])), (39, (31, 42, 11, 1, 0, 0, 0, [])), (42, (29, 45, 0, 2, 0, 0, 0, [])), (45, (4, 46, 0, 0, 0, 0, 0, [])), (46, (31, 49, 11, 11, 5, 0, 0, [])), (49, (29, 52, 5, 13, 0, 0, 0, [])), (52, (24, 55, 3, 59, 0, 0, 0, [])), (55, (0, 56, 0, 0, 0, 2, 0, [])), (56, (26, 59, 0, 60, 0, 0, 0, [])), (59, (0, 60, 0, 0, 0, 0, 0, [])), (60, (53, 61, 0, 0, 0, 0, 0, []))], [])
def tx_X_many : Tx := ([(0, (4, 1, 0, 0, 0, 0, 0, [])), (1, (4, 2, 0, 0, 0, 0, 0, [])), (2, (31, 5, 11, 1, 0, 0, 0, [])), (5, (50, 8, 130, 2, 2, 0, 0, [11])), (8, (54, 9, 0, 0, 0, 0, 0, []))], [])
def tx_X_manyOf : Tx := ([(0, (2, 1, 1, 0, 0, 0, 0, [])), (1, (25, 4, 2, 10, 0, 0, 0, [])), (4, (2, 5, 1, 0, 0, 0, 0, [])), (5, (0, 7, 0, 0, 0, 40, 0, [])), (7, (24, 10, 5, 14, 0, 0, 0, [])), (10, (1, 13, 156, 0, 0, 0, -1, [])), (13, (54, 14, 0, 0, 0, 0, 0, [])), (14, (4, 15, 0, 0, 0, 0, 0, [])), (15, (31, 18, 11, 3, 10, 0, 0, [])), (18, (4, 19, 0, 0, 0, 0, 0, [])), (19, (31, 22, 11, 11, 5, 0, 0, [])), (22, (2, 23, 1, 0, 0, 0, 0, [])), (23, (50, 26, 87, 3, 0, 0, 0, [10])), (26, (4, 27, 0, 0, 0, 0, 0, [])), (27, (31, 30, 11, 2, 0, 0, 0, [])), (30, (4, 31, 0, 0, 0, 0, 0, [])), (31, (31, 34, 11, 1, 0, 0, 0, [])), (34, (50, 37, 3, 2, 0, 0, 0, [0])), (37, (4, 38, 0, 0, 0, 0, 0, [])), (38, (31, 41, 11, 3, 10, 0, 0, [])), (41, (4, 42, 0, 0, 0, 0, 0, [])), (42, (31, 45, 11, 11, 5, 0, 0, [])), (45, (4, 46, 0, 0, 0, 0, 0, [])), (46, (31, 49, 11, 2, 0, 0, 0, [])), (49, (0, 50, 0, 0, 0, 0, 0, [])), (50, (50, 53, 90, 4, 2, 0, 0, [10])), (53, (54, 54, 0, 0, 0, 0, 0, []))], [])
def tx_X_rank : Tx := ([(0, (4, 1, 0, 0, 0, 0, 0, [])), (1, (50, 4, 109, 1, 1, 0, 0, [11])), (4, (25, 7, 0, 11, 0, 0, 0, [])), (7, (1, 10, 156, 0, 0, 0, -1, [])), (10, (54, 11, 0, 0, 0, 0, 0, [])), (11, (4, 12, 0, 0, 0, 0, 0, [])), (12, (31, 15, 11, 3, 10, 0, 0, [])), (15, (4, 16, 0, 0, 0, 0, 0, [])), (16, (31, 19, 11, 11, 5, 0, 0, [])), (19, (50, 22, 86, 2, 0, 0, 0, [10])), (22, (4, 23, 0, 0, 0, 0, 0, [])), (23, (31, 26, 11, 2, 0, 0, 0, [])), (26, (50, 29, 1, 1, 0, 0, 0, [0])), (29, (1, 30, 0, 0, 0, 0, 0, [])), (30, (6, 31, 1, 0, 0, 0, 0, [])), (31, (0, 32, 0, 0, 0, 0, 0, [])), (32, (5, 33, 3, 0, 0, 0, 0, [])), (33, (2, 34, 3, 0, 0, 0, 0, [])), (34, (4, 35, 0, 0, 0, 0, 0, [])), (35, (31, 38, 11, 1, 0, 0, 0, [])), (38, (29, 41, 0, 2, 0, 0, 0, [])), (41, (24, 44, 3, 97, 0, 0, 0, [])), (44, (3, 45, 1, 0, 0, 0, 0, [])), (45, (4, 46, 0, 0, 0, 0, 0, [])), (46, (31, 49, 11, 3, 10, 0, 0, [])), (49, (4, 50, 0, 0, 0, 0, 0, [])), (50, (31, 53, 11, 11, 5, 0, 0, [])), (53, (4, 54, 0, 0, 0, 0, 0, [])), (54, (31, 57, 11, 2, 0, 0, 0, [])), (57, (4, 58, 0, 0, 0, 0, 0, [])), (58, (31, 61, 11, 1, 0, 0, 0, [])), (61, (31, 64, 0, 0, 20, 0, 0, [])), (64, (2, 65, 3, 0, 0, 0, 0, [])), (65, (37, 66, 0, 0, 0, 0, 0, [])), (66, (50, 69, 92, 4, 2, 0, 0, [10])), (69, (13, 70, 0, 0, 0, 0, 0, [])), (70, (6, 71, 1, 0, 0, 0, 0, [])), (71, (4, 72, 0, 0, 0, 0, 0, [])), (72, (31, 75, 11, 2, 0, 0, 0, [])), (75, (4, 76, 0, 0, 0, 0, 0, [])), (76, (31, 79, 11, 11, 5, 0, 0, [])), (79, (4, 80, 0, 0, 0, 0, 0, [])), (80, (31, 83, 11, 1, 0, 0, 0, [])), (83, (31, 86, 0, 0, 20, 0, 0, [])), (86, (2, 87, 3, 0, 0, 0, 0, [])), (87, (37, 88, 0, 0, 0, 0, 0, [])), (88, (50, 91, 5, 3, 0, 0, 0, [0])), (91, (8, 94, 3, 0, 0, 1, 0, [])), (94, (26, 97, 0, 33, 0, 0, 0, [])), (97, (3, 98, 1, 0, 0, 0, 0, [])), (98, (54, 99, 0, 0, 0, 0, 0, []))], [(33, [2])])
def tx_X_nth : Tx := ([(0, (4, 1, 0, 0, 0, 0, 0, [])), (1, (31, 4, 11, 2, 0, 0, 0, [])), (4, (50, 7, 1, 1, 0, 0, 0, [0])), (7, (4, 8, 0, 0, 0, 0, 0, [])), (8, (3, 9, 1, 0, 0, 0, 0, [])), (9, (2, 10, 3, 0, 0, 0, 0, [])), (10, (50, 13, 131, 3, 1, 0, 0, [11])), (13, (53, 14, 0, 0, 0, 0, 0, []))], [])
def tx_X_plain : Tx := ([(0, (2, 1, 1, 0, 0, 0, 0, [])), (1, (25, 4, 2, 22, 0, 0, 0, [])), (4, (2, 5, 1, 0, 0, 0, 0, [])), (5, (0, 7, 183, 0, 0, 999999999, 0, [])), (7, (24, 10, 4, 22, 0, 0, 0, [])), (10, (2, 11, 2, 0, 0, 0, 0, [])), (11, (0, 12, 0, 0, 0, 1, 0, [])), (12, (24, 15, 2, 22, 0, 0, 0, [])), (15, (2, 16, 2, 0, 0, 0, 0, [])), (16, (0, 19, 0, 0, 0, 9999, 0, [])), (19, (24, 22, 5, 30, 0, 0, 0, [])), (22, (63, 25, 0, 0, 0, 0, 0, [])), (25, (22, 26, 0, 0, 0, 0, 0, [])), (26, (63, 29, 0, 0, 0, 0, 0, [])), (29, (63, 30, 0, 0, 0, 0, 0, [])), (30, (4, 31, 0, 0, 0, 0, 0, [])), (31, (31, 34, 11, 7, 4, 0, 0, [])), (34, (4, 35, 0, 0, 0, 0, 0, [])), (35, (31, 38, 11, 11, 5, 0, 0, [])), (38, (2, 39, 1, 0, 0, 0, 0, [])), (39, (2, 40, 2, 0, 0, 0, 0, [])), (40, (50, 43, 21, 4, 1, 0, 0, [4])), (43, (53, 44, 0, 0, 0, 0, 0, []))], [])
def tx_X_crowd : Tx := ([(0, (3, 1, 1, 0, 0, 0, 0, [])), (1, (50, 4, 134, 1, 1, 0, 0, [])), (4, (25, 7, 1, 22, 0, 0, 0, [])), (7, (2, 8, 3, 0, 0, 0, 0, [])), (8, (25, 11, 2, 22, 0, 0, 0, [])), (11, (2, 12, 3, 0, 0, 0, 0, [])), (12, (4, 13, 0, 0, 0, 0, 0, [])), (13, (31, 16, 11, 11, 5, 0, 0, [])), (16, (29, 19, 5, 7, 0, 0, 0, [])), (19, (24, 22, 5, 26, 0, 0, 0, [])), (22, (1, 25, 156, 0, 0, 0, -1, [])), (25, (54, 26, 0, 0, 0, 0, 0, [])), (26, (4, 27, 0, 0, 0, 0, 0, [])), (27, (31, 30, 11, 4, 9, 0, 0, [])), (30, (4, 31, 0, 0, 0, 0, 0, [])), (31, (31, 34, 11, 11, 5, 0, 0, [])), (34, (3, 35, 1, 0, 0, 0, 0, [])), (35, (50, 38, 78, 3, 0, 0, 0, [9])), (38, (4, 39, 0, 0, 0, 0, 0, [])), (39, (31, 42, 11, 4, 9, 0, 0, [])), (42, (31, 45, 9, 0, 21, 0, 0, [])), (45, (2, 46, 3, 0, 0, 0, 0, [])), (46, (38, 47, 0, 0, 0, 0, 0, [])), (47, (54, 48, 0, 0, 0, 0, 0, []))], [])
def tx_X_weary : Tx := ([(0, (3, 1, 1, 0, 0, 0, 0, [])), (1, (50, 4, 134, 1, 1, 0, 0, [])), (4, (25, 7, 0, 11, 0, 0, 0, [])), (7, (1, 10, 156, 0, 0, 0, -1, [])), (10, (54, 11, 0, 0, 0, 0, 0, [])), (11, (4, 12, 0, 0, 0, 0, 0, [])), (12, (31, 15, 11, 4, 9, 0, 0, [])), (15, (4, 16, 0, 0, 0, 0, 0, [])), (16, (31, 19, 11, 11, 5, 0, 0, [])), (19, (3, 20, 1, 0, 0, 0, 0, [])), (20, (50, 23, 78, 3, 0, 0, 0, [9])), (23, (4, 24, 0, 0, 0, 0, 0, [])), (24, (31, 27, 11, 4, 9, 0, 0, [])), (27, (30, 30, 9, 1, 0, 0, 0, [])), (30, (54, 31, 0, 0, 0, 0, 0, []))], [])
def tx_X_weight : Tx := ([(0, (4, 1, 0, 0, 0, 0, 0, [])), (1, (31, 4, 11, 1, 0, 0, 0, [])), (4, (4, 5, 0, 0, 0, 0, 0, [])), (5, (31, 8, 11, 11, 5, 0, 0, [])), (8, (2, 9, 1, 0, 0, 0, 0, [])), (9, (50, 12, 4, 3, 1, 0, 0, [0])), (12, (25, 15, 0, 30, 0, 0, 0, [])), (15, (4, 16, 0, 0, 0, 0, 0, [])), (16, (31, 19, 11, 1, 0, 0, 0, [])), (19, (4, 20, 0, 0, 0, 0, 0, [])), (20, (31, 23, 11, 11, 5, 0, 0, [])), (23, (2, 24, 1, 0, 0, 0, 0, [])), (24, (50, 27, 7, 3, 1, 0, 0, [0])), (27, (26, 30, 0, 31, 0, 0, 0, [])), (30, (0, 31, 0, 0, 0, -1, 0, [])), (31, (53, 32, 0, 0, 0, 0, 0, []))], [])
def tx_X_two : Tx := ([(0, (4, 1, 0, 0, 0, 0, 0, [])), (1, (31, 4, 11, 11, 5, 0, 0, [])), (4, (29, 7, 5, 7, 0, 0, 0, [])), (7, (0, 9, 0, 0, 0, 24, 0, [])), (9, (24, 12, 5, 18, 0, 0, 0, [])), (12, (1, 15, 156, 0, 0, 0, -1, [])), (15, (26, 18, 0, 29, 0, 0, 0, [])), (18, (4, 19, 0, 0, 0, 0, 0, [])), (19, (31, 22, 11, 6, 3, 0, 0, [])), (22, (4, 23, 0, 0, 0, 0, 0, [])), (23, (31, 26, 11, 11, 5, 0, 0, [])), (26, (50, 29, 17, 2, 2, 0, 0, [3])), (29, (54, 30, 0, 0, 0, 0, 0, []))], [])
def tx_X_game : Tx := ([(0, (4, 1, 0, 0, 0, 0, 0, [])), (1, (31, 4, 11, 1, 0, 0, 0, [])), (4, (29, 7, 0, 1, 0, 0, 0, [])), (7, (4, 8, 0, 0, 0, 0, 0, [])), (8, (31, 11, 11, 11, 5, 0, 0, [])), (11, (29, 14, 5, 7, 0, 0, 0, [])), (14, (24, 17, 2, 19, 0, 0, 0, [])), (17, (0, 18, 0, 0, 0, -1, 0, [])), (18, (53, 19, 0, 0, 0, 0, 0, [])), (19, (4, 20, 0, 0, 0, 0, 0, [])), (20, (31, 23, 11, 3, 10, 0, 0, [])), (23, (4, 24, 0, 0, 0, 0, 0, [])), (24, (31, 27, 11, 11, 5, 0, 0, [])), (27, (50, 30, 88, 2, 0, 0, 0, [10])), (30, (4, 31, 0, 0, 0, 0, 0, [])), (31, (31, 34, 11, 2, 0, 0, 0, [])), (34, (4, 35, 0, 0, 0, 0, 0, [])), (35, (31, 38, 11, 1, 0, 0, 0, [])), (38, (50, 41, 3, 2, 0, 0, 0, [0])), (41, (4, 42, 0, 0, 0, 0, 0, [])), (42, (31, 45, 11, 3, 10, 0, 0, [])), (45, (4, 46, 0, 0, 0, 0, 0, [])), (46, (31, 49, 11, 11, 5, 0, 0, [])), (49, (4, 50, 0, 0, 0, 0, 0, [])), (50, (31, 53, 11, 2, 0, 0, 0, [])), (53, (0, 54, 0, 0, 0, 0, 0, [])), (54, (50, 57, 94, 4, 1, 0, 0, [10])), (57, (53, 58, 0, 0, 0, 0, 0, []))], [])
def tx_X_heaps : Tx := ([(0, (2, 1, 1, 0, 0, 0, 0, [])), (1, (25, 4, 3, 6, 0, 0, 0, [])), (4, (0, 5, 0, 0, 0, -1, 0, [])), (5, (53, 6, 0, 0, 0, 0, 0, [])), (6, (2, 7, 1, 0, 0, 0, 0, [])), (7, (5, 8, 2, 0, 0, 0, 0, [])), (8, (0, 9, 0, 0, 0, 0, 0, [])), (9, (5, 10, 3, 0, 0, 0, 0, [])), (10, (0, 11, 0, 0, 0, 0, 0, [])), (11, (5, 13, 4, 0, 0, 0, 0, [])), (13, (2, 15, 4, 0, 0, 0, 0, [])), (15, (0, 16, 0, 0, 0, 4, 0, [])), (16, (24, 19, 3, 77, 0, 0, 0, [])), (19, (2, 20, 2, 0, 0, 0, 0, [])), (20, (0, 22, 0, 0, 0, 63, 0, [])), (22, (9, 23, 3, 0, 0, 0, 0, [])), (23, (5, 25, 5, 0, 0, 0, 0, [])), (25, (2, 26, 2, 0, 0, 0, 0, [])), (26, (0, 28, 0, 0, 0, 6, 0, [])), (28, (9, 29, 7, 0, 0, 0, 0, [])), (29, (5, 30, 2, 0, 0, 0, 0, [])), (30, (2, 32, 5, 0, 0, 0, 0, [])), (32, (4, 33, 0, 0, 0, 0, 0, [])), (33, (31, 36, 11, 11, 5, 0, 0, [])), (36, (29, 39, 5, 7, 0, 0, 0, [])), (39, (24, 42, 4, 56, 0, 0, 0, [])), (42, (4, 43, 0, 0, 0, 0, 0, [])), (43, (31, 46, 11, 11, 5, 0, 0, [])), (46, (31, 49, 5, 2, 20, 0, 0, [])), (49, (2, 51, 5, 0, 0, 0, 0, [])), (51, (37, 52, 0, 0, 0, 0, 0, [])), (52, (0, 53, 0, 0, 0, 1, 0, [])), (53, (24, 56, 1, 58, 0, 0, 0, [])), (56, (0, 57, 0, 0, 0, -1, 0, [])), (57, (53, 58, 0, 0, 0, 0, 0, [])), (58, (2, 59, 3, 0, 0, 0, 0, [])), (59, (4, 60, 0, 0, 0, 0, 0, [])), (60, (31, 63, 11, 11, 5, 0, 0, [])), (63, (31, 66, 5, 4, 20, 0, 0, [])), (66, (2, 68, 5, 0, 0, 0, 0, [])), (68, (37, 69, 0, 0, 0, 0, 0, [])), (69, (9, 70, 5, 0, 0, 0, 0, [])), (70, (5, 71, 3, 0, 0, 0, 0, [])), (71, (8, 74, 4, 0, 0, 1, 0, [])), (74, (26, 77, 0, 13, 0, 0, 0, [])), (77, (2, 78, 2, 0, 0, 0, 0, [])), (78, (25, 81, 0, 83, 0, 0, 0, [])), (81, (0, 82, 0, 0, 0, -1, 0, [])), (82, (53, 83, 0, 0, 0, 0, 0, [])), (83, (2, 84, 3, 0, 0, 0, 0, [])), (84, (25, 87, 0, 91, 0, 0, 0, [])), (87, (0, 88, 0, 0, 0, 1, 0, [])), (88, (26, 91, 0, 92, 0, 0, 0, [])), (91, (0, 92, 0, 0, 0, 0, 0, [])), (92, (53, 93, 0, 0, 0, 0, 0, []))], [(13, [1, 5]), (19, [1, 5])])
def tx_X_dust : Tx := ([(0, (2, 1, 1, 0, 0, 0, 0, [])), (1, (0, 2, 0, 0, 0, 1, 0, [])), (2, (24, 5, 2, 25, 0, 0, 0, [])), (5, (2, 6, 1, 0, 0, 0, 0, [])), (6, (4, 7, 0, 0, 0, 0, 0, [])), (7, (31, 10, 11, 11, 5, 0, 0, [])), (10, (29, 13, 5, 7, 0, 0, 0, [])), (13, (24, 16, 3, 25, 0, 0, 0, [])), (16, (2, 17, 2, 0, 0, 0, 0, [])), (17, (25, 20, 2, 25, 0, 0, 0, [])), (20, (2, 21, 2, 0, 0, 0, 0, [])), (21, (0, 22, 0, 0, 0, 2, 0, [])), (22, (24, 25, 5, 27, 0, 0, 0, [])), (25, (0, 26, 0, 0, 0, 0, 0, [])), (26, (53, 27, 1, 0, 0, 0, 0, [])), (27, (4, 28, 0, 0, 0, 0, 0, [])), (28, (31, 31, 11, 9, 20, 0, 0, [])), (31, (2, 32, 1, 0, 0, 0, 0, [])), (32, (2, 33, 2, 0, 0, 0, 0, [])), (33, (42, 34, 0, 0, 0, 0, 0, [])), (34, (0, 35, 0, 0, 0, 1, 0, [])), (35, (53, 36, 1, 0, 0, 0, 0, []))], [])
def tx_X_fit : Tx := ([(0, (4, 1, 0, 0, 0, 0, 0, [])), (1, (31, 4, 11, 3, 10, 0, 0, [])), (4, (4, 5, 0, 0, 0, 0, 0, [])), (5, (31, 8, 11, 11, 5, 0, 0, [])), (8, (4, 9, 0, 0, 0, 0, 0, [])), (9, (31, 12, 11, 9, 20, 0, 0, [])), (12, (50, 15, 89, 3, 0, 0, 0, [10])), (15, (4, 16, 0, 0, 0, 0, 0, [])), (16, (31, 19, 11, 2, 0, 0, 0, [])), (19, (50, 22, 1, 1, 0, 0, 0, [0])), (22, (4, 23, 0, 0, 0, 0, 0, [])), (23, (31, 26, 11, 3, 10, 0, 0, [])), (26, (4, 27, 0, 0, 0, 0, 0, [])), (27, (31, 30, 11, 11, 5, 0, 0, [])), (30, (4, 31, 0, 0, 0, 0, 0, [])), (31, (31, 34, 11, 2, 0, 0, 0, [])), (34, (0, 35, 0, 0, 0, 0, 0, [])), (35, (50, 38, 90, 4, 2, 0, 0, [10])), (38, (54, 39, 0, 0, 0, 0, 0, []))], [])
def tx_X_fewest : Tx := ([(0, (4, 1, 0, 0, 0, 0, 0, [])), (1, (31, 4, 11, 5, 7, 0, 0, [])), (4, (4, 5, 0, 0, 0, 0, 0, [])), (5, (31, 8, 11, 11, 5, 0, 0, [])), (8, (4, 9, 0, 0, 0, 0, 0, [])), (9, (31, 12, 11, 9, 20, 0, 0, [])), (12, (50, 15, 62, 3, 1, 0, 0, [7])), (15, (53, 16, 0, 0, 0, 0, 0, []))], [])
def tx_X_still : Tx := ([(0, (2, 1, 1, 0, 0, 0, 0, [])), (1, (50, 4, 135, 1, 1, 0, 0, [])), (4, (25, 7, 1, 29, 0, 0, 0, [])), (7, (2, 8, 2, 0, 0, 0, 0, [])), (8, (50, 11, 135, 1, 1, 0, 0, [])), (11, (25, 14, 1, 29, 0, 0, 0, [])), (14, (2, 15, 3, 0, 0, 0, 0, [])), (15, (50, 18, 135, 1, 1, 0, 0, [])), (18, (25, 21, 1, 29, 0, 0, 0, [])), (21, (2, 23, 4, 0, 0, 0, 0, [])), (23, (50, 26, 135, 1, 1, 0, 0, [])), (26, (25, 29, 0, 31, 0, 0, 0, [])), (29, (0, 30, 0, 0, 0, -1, 0, [])), (30, (53, 31, 0, 0, 0, 0, 0, [])), (31, (2, 33, 5, 0, 0, 0, 0, [])), (33, (25, 36, 2, 48, 0, 0, 0, [])), (36, (2, 38, 5, 0, 0, 0, 0, [])), (38, (0, 39, 0, 0, 0, 1, 0, [])), (39, (24, 42, 4, 48, 0, 0, 0, [])), (42, (2, 43, 2, 0, 0, 0, 0, [])), (43, (2, 45, 4, 0, 0, 0, 0, [])), (45, (24, 48, 1, 50, 0, 0, 0, [])), (48, (0, 49, 0, 0, 0, -1, 0, [])), (49, (53, 50, 0, 0, 0, 0, 0, [])), (50, (2, 51, 1, 0, 0, 0, 0, [])), (51, (2, 53, 4, 0, 0, 0, 0, [])), (53, (9, 54, 2, 0, 0, 0, 0, [])), (54, (2, 55, 3, 0, 0, 0, 0, [])), (55, (2, 56, 2, 0, 0, 0, 0, [])), (56, (9, 57, 2, 0, 0, 0, 0, [])), (57, (9, 58, 1, 0, 0, 0, 0, [])), (58, (5, 60, 6, 0, 0, 0, 0, [])), (60, (2, 62, 4, 0, 0, 0, 0, [])), (62, (2, 63, 2, 0, 0, 0, 0, [])), (63, (9, 64, 1, 0, 0, 0, 0, [])), (64, (5, 66, 7, 0, 0, 0, 0, [])), (66, (2, 68, 7, 0, 0, 0, 0, [])), (68, (25, 71, 3, 81, 0, 0, 0, [])), (71, (2, 73, 6, 0, 0, 0, 0, [])), (73, (12, 74, 0, 0, 0, 0, 0, [])), (74, (5, 76, 6, 0, 0, 0, 0, [])), (76, (2, 78, 7, 0, 0, 0, 0, [])), (78, (12, 79, 0, 0, 0, 0, 0, [])), (79, (5, 81, 7, 0, 0, 0, 0, [])), (81, (2, 83, 6, 0, 0, 0, 0, [])), (83, (25, 86, 4, 88, 0, 0, 0, [])), (86, (0, 87, 0, 0, 0, -1, 0, [])), (87, (53, 88, 0, 0, 0, 0, 0, [])), (88, (2, 90, 6, 0, 0, 0, 0, [])), (90, (2, 92, 7, 0, 0, 0, 0, [])), (92, (50, 95, 137, 2, 1, 0, 0, [])), (95, (5, 97, 8, 0, 0, 0, 0, [])), (97, (2, 99, 5, 0, 0, 0, 0, [])), (99, (25, 102, 1, 107, 0, 0, 0, [])), (102, (2, 104, 6, 0, 0, 0, 0, [])), (104, (26, 107, 0, 109, 0, 0, 0, [])), (107, (2, 109, 7, 0, 0, 0, 0, [])), (109, (2, 111, 8, 0, 0, 0, 0, [])), (111, (10, 112, 0, 0, 0, 0, 0, [])), (112, (53, 113, 0, 0, 0, 0, 0, []))], [(14, [0, 6, 7, 8]), (81, [0, 1, 2, 3, 4, 8])])
def tx_X_fair : Tx := ([(0, (2, 1, 1, 0, 0, 0, 0, [])), (1, (50, 4, 136, 1, 1, 0, 0, [])), (4, (25, 7, 0, 9, 0, 0, 0, [])), (7, (0, 8, 0, 0, 0, -1, 0, [])), (8, (53, 9, 0, 0, 0, 0, 0, [])), (9, (4, 10, 0, 0, 0, 0, 0, [])), (10, (4, 11, 0, 0, 0, 0, 0, [])), (11, (31, 14, 11, 1, 0, 0, 0, [])), (14, (50, 17, 130, 2, 2, 0, 0, [11])), (17, (6, 18, 3, 0, 0, 0, 0, [])), (18, (3, 19, 3, 0, 0, 0, 0, [])), (19, (1, 20, 0, 0, 0, 0, 0, [])), (20, (21, 21, 0, 0, 0, 0, 0, [])), (21, (25, 24, 4, 26, 0, 0, 0, [])), (24, (0, 25, 0, 0, 0, -1, 0, [])), (25, (53, 26, 0, 0, 0, 0, 0, [])), (26, (4, 27, 0, 0, 0, 0, 0, [])), (27, (2, 28, 1, 0, 0, 0, 0, [])), (28, (18, 29, 0, 0, 0, 0, 0, [])), (29, (34, 32, 11, 13, 0, 0, 0, [])), (32, (4, 33, 0, 0, 0, 0, 0, [])), (33, (0, 35, 242, 0, 0, 32768, 0, [])), (35, (50, 38, 132, 2, 1, 0, 0, [11])), (38, (18, 39, 0, 0, 0, 0, 0, [])), (39, (6, 41, 5, 0, 0, 0, 0, [])), (41, (3, 43, 5, 0, 0, 0, 0, [])), (43, (1, 46, 247, 0, 0, 0, 32768, [])), (46, (13, 47, 2, 0, 0, 0, 0, [])), (47, (4, 48, 0, 0, 0, 0, 0, [])), (48, (0, 50, 242, 0, 0, 32768, 0, [])), (50, (50, 53, 132, 2, 1, 0, 0, [11])), (53, (18, 54, 0, 0, 0, 0, 0, [])), (54, (13, 55, 0, 0, 0, 0, 0, [])), (55, (6, 57, 5, 0, 0, 0, 0, [])), (57, (3, 59, 5, 0, 0, 0, 0, [])), (59, (1, 62, 247, 0, 0, 0, 32768, [])), (62, (13, 63, 2, 0, 0, 0, 0, [])), (63, (4, 64, 0, 0, 0, 0, 0, [])), (64, (0, 66, 242, 0, 0, 32768, 0, [])), (66, (50, 69, 132, 2, 1, 0, 0, [11])), (69, (18, 70, 0, 0, 0, 0, 0, [])), (70, (13, 71, 0, 0, 0, 0, 0, [])), (71, (6, 73, 5, 0, 0, 0, 0, [])), (73, (4, 74, 0, 0, 0, 0, 0, [])), (74, (3, 76, 5, 0, 0, 0, 0, [])), (76, (3, 77, 3, 0, 0, 0, 0, [])), (77, (17, 78, 0, 0, 0, 0, 0, [])), (78, (2, 79, 2, 0, 0, 0, 0, [])), (79, (50, 82, 131, 3, 1, 0, 0, [11])), (82, (53, 83, 0, 0, 0, 0, 0, []))], [(9, [3, 4, 5, 6])])
def tx_X_climb : Tx := ([(0, (2, 1, 1, 0, 0, 0, 0, [])), (1, (50, 4, 136, 1, 1, 0, 0, [])), (4, (25, 7, 1, 16, 0, 0, 0, [])), (7, (2, 8, 2, 0, 0, 0, 0, [])), (8, (25, 11, 2, 16, 0, 0, 0, [])), (11, (2, 12, 2, 0, 0, 0, 0, [])), (12, (0, 13, 0, 0, 0, 1, 0, [])), (13, (24, 16, 5, 18, 0, 0, 0, [])), (16, (0, 17, 0, 0, 0, -1, 0, [])), (17, (53, 18, 0, 0, 0, 0, 0, [])), (18, (4, 19, 0, 0, 0, 0, 0, [])), (19, (2, 20, 1, 0, 0, 0, 0, [])), (20, (18, 21, 0, 0, 0, 0, 0, [])), (21, (34, 24, 11, 13, 0, 0, 0, [])), (24, (4, 25, 0, 0, 0, 0, 0, [])), (25, (31, 28, 11, 2, 0, 0, 0, [])), (28, (50, 31, 1, 1, 0, 0, 0, [0])), (31, (0, 32, 0, 0, 0, 0, 0, [])), (32, (5, 33, 3, 0, 0, 0, 0, [])), (33, (2, 34, 3, 0, 0, 0, 0, [])), (34, (0, 36, 0, 0, 0, 40, 0, [])), (36, (24, 39, 3, 110, 0, 0, 0, [])), (39, (4, 40, 0, 0, 0, 0, 0, [])), (40, (31, 43, 11, 2, 0, 0, 0, [])), (43, (4, 44, 0, 0, 0, 0, 0, [])), (44, (31, 47, 11, 11, 5, 0, 0, [])), (47, (4, 48, 0, 0, 0, 0, 0, [])), (48, (31, 51, 11, 10, 20, 0, 0, [])), (51, (50, 54, 8, 3, 0, 0, 0, [0])), (54, (4, 55, 0, 0, 0, 0, 0, [])), (55, (31, 58, 11, 2, 0, 0, 0, [])), (58, (4, 59, 0, 0, 0, 0, 0, [])), (59, (31, 62, 11, 11, 5, 0, 0, [])), (62, (4, 63, 0, 0, 0, 0, 0, [])), (63, (31, 66, 11, 10, 20, 0, 0, [])), (66, (4, 67, 0, 0, 0, 0, 0, [])), (67, (31, 70, 11, 10, 20, 0, 0, [])), (70, (50, 73, 9, 4, 1, 0, 0, [0])), (73, (5, 75, 4, 0, 0, 0, 0, [])), (75, (2, 77, 4, 0, 0, 0, 0, [])), (77, (25, 80, 4, 83, 0, 0, 0, [])), (80, (26, 83, 0, 110, 0, 0, 0, [])), (83, (4, 84, 0, 0, 0, 0, 0, [])), (84, (31, 87, 11, 2, 0, 0, 0, [])), (87, (4, 88, 0, 0, 0, 0, 0, [])), (88, (31, 91, 11, 11, 5, 0, 0, [])), (91, (4, 92, 0, 0, 0, 0, 0, [])), (92, (4, 93, 0, 0, 0, 0, 0, [])), (93, (2, 95, 4, 0, 0, 0, 0, [])), (95, (50, 98, 132, 2, 1, 0, 0, [11])), (98, (50, 101, 133, 2, 1, 0, 0, [11])), (101, (50, 104, 5, 3, 0, 0, 0, [0])), (104, (8, 107, 3, 0, 0, 1, 0, [])), (107, (26, 110, 0, 33, 0, 0, 0, [])), (110, (2, 111, 2, 0, 0, 0, 0, [])), (111, (25, 114, 1, 124, 0, 0, 0, [])), (114, (4, 115, 0, 0, 0, 0, 0, [])), (115, (31, 118, 11, 2, 0, 0, 0, [])), (118, (29, 121, 0, 1, 0, 0, 0, [])), (121, (26, 124, 0, 131, 0, 0, 0, [])), (124, (4, 125, 0, 0, 0, 0, 0, [])), (125, (31, 128, 11, 2, 0, 0, 0, [])), (128, (29, 131, 0, 2, 0, 0, 0, [])), (131, (53, 132, 0, 0, 0, 0, 0, []))], [(33, [1, 4]), (110, [1, 3, 4])])
def tx_X_mark : Tx := ([(0, (2, 1, 1, 0, 0, 0, 0, [])), (1, (25, 4, 2, 13, 0, 0, 0, [])), (4, (2, 5, 1, 0, 0, 0, 0, [])), (5, (4, 6, 0, 0, 0, 0, 0, [])), (6, (31, 9, 11, 8, 24, 0, 0, [])), (9, (36, 10, 0, 0, 0, 0, 0, [])), (10, (24, 13, 2, 15, 0, 0, 0, [])), (13, (0, 14, 0, 0, 0, 0, 0, [])), (14, (53, 15, 1, 0, 0, 0, 0, [])), (15, (4, 16, 0, 0, 0, 0, 0, [])), (16, (31, 19, 11, 8, 24, 0, 0, [])), (19, (2, 20, 1, 0, 0, 0, 0, [])), (20, (41, 21, 0, 0, 0, 0, 0, [])), (21, (7, 22, 3, 0, 0, 0, 0, [])), (22, (4, 23, 3, 0, 0, 0, 0, [])), (23, (28, 26, 0, 37, 0, 0, 0, [])), (26, (2, 27, 2, 0, 0, 0, 0, [])), (27, (25, 30, 0, 39, 0, 0, 0, [])), (30, (4, 31, 3, 0, 0, 0, 0, [])), (31, (29, 34, 1, 2, 0, 0, 0, [])), (34, (25, 37, 1, 39, 0, 0, 0, [])), (37, (0, 38, 0, 0, 0, 0, 0, [])), (38, (53, 39, 1, 0, 0, 0, 0, [])), (39, (2, 40, 2, 0, 0, 0, 0, [])), (40, (25, 43, 0, 75, 0, 0, 0, [])), (43, (4, 44, 0, 0, 0, 0, 0, [])), (44, (31, 47, 11, 1, 0, 0, 0, [])), (47, (4, 48, 3, 0, 0, 0, 0, [])), (48, (31, 51, 1, 0, 0, 0, 0, [])), (51, (50, 54, 3, 2, 0, 0, 0, [0])), (54, (4, 55, 3, 0, 0, 0, 0, [])), (55, (31, 58, 1, 1, 20, 0, 0, [])), (58, (0, 59, 0, 0, 0, 0, 0, [])), (59, (4, 60, 0, 0, 0, 0, 0, [])), (60, (31, 63, 11, 9, 20, 0, 0, [])), (63, (0, 64, 0, 0, 0, 0, 0, [])), (64, (4, 65, 0, 0, 0, 0, 0, [])), (65, (31, 68, 11, 9, 20, 0, 0, [])), (68, (36, 69, 0, 0, 0, 0, 0, [])), (69, (52, 72, 0, 0, 0, 0, 0, [])), (72, (26, 75, 0, 109, 0, 0, 0, [])), (75, (4, 76, 3, 0, 0, 0, 0, [])), (76, (0, 77, 0, 0, 0, 1, 0, [])), (77, (33, 80, 1, 2, 0, 0, 0, [])), (80, (4, 81, 3, 0, 0, 0, 0, [])), (81, (31, 84, 1, 0, 0, 0, 0, [])), (84, (4, 85, 0, 0, 0, 0, 0, [])), (85, (31, 88, 11, 1, 0, 0, 0, [])), (88, (50, 91, 3, 2, 0, 0, 0, [0])), (91, (4, 92, 0, 0, 0, 0, 0, [])), (92, (31, 95, 11, 9, 20, 0, 0, [])), (95, (0, 96, 0, 0, 0, 0, 0, [])), (96, (4, 97, 3, 0, 0, 0, 0, [])), (97, (31, 100, 1, 1, 20, 0, 0, [])), (100, (0, 101, 0, 0, 0, 0, 0, [])), (101, (4, 102, 0, 0, 0, 0, 0, [])), (102, (31, 105, 11, 9, 20, 0, 0, [])), (105, (36, 106, 0, 0, 0, 0, 0, [])), (106, (52, 109, 0, 0, 0, 0, 0, [])), (109, (0, 110, 0, 0, 0, 1, 0, [])), (110, (53, 111, 1, 0, 0, 0, 0, []))], [(39, [1])])
def tx_X_count : Tx := ([(0, (2, 1, 1, 0, 0, 0, 0, [])), (1, (27, 48, 0, 115, 0, 0, 0, [48, 56, 64, 72, 80, 88, 96, 104])), (48, (4, 49, 0, 0, 0, 0, 0, [])), (49, (31, 52, 11, 11, 5, 0, 0, [])), (52, (29, 55, 5, 7, 0, 0, 0, [])), (55, (53, 56, 0, 0, 0, 0, 0, [])), (56, (4, 57, 0, 0, 0, 0, 0, [])), (57, (31, 60, 11, 1, 0, 0, 0, [])), (60, (29, 63, 0, 1, 0, 0, 0, [])), (63, (53, 64, 0, 0, 0, 0, 0, [])), (64, (4, 65, 0, 0, 0, 0, 0, [])), (65, (31, 68, 11, 1, 0, 0, 0, [])), (68, (29, 71, 0, 2, 0, 0, 0, [])), (71, (53, 72, 0, 0, 0, 0, 0, [])), (72, (4, 73, 0, 0, 0, 0, 0, [])), (73, (31, 76, 11, 1, 0, 0, 0, [])), (76, (29, 79, 0, 4, 0, 0, 0, [])), (79, (53, 80, 0, 0, 0, 0, 0, [])), (80, (4, 81, 0, 0, 0, 0, 0, [])), (81, (31, 84, 11, 1, 0, 0, 0, [])), (84, (29, 87, 0, 5, 0, 0, 0, [])), (87, (53, 88, 0, 0, 0, 0, 0, [])), (88, (4, 89, 0, 0, 0, 0, 0, [])), (89, (31, 92, 11, 11, 5, 0, 0, [])), (92, (29, 95, 5, 8, 0, 0, 0, [])), (95, (53, 96, 0, 0, 0, 0, 0, [])), (96, (4, 97, 0, 0, 0, 0, 0, [])), (97, (31, 100, 11, 11, 5, 0, 0, [])), (100, (29, 103, 5, 11, 0, 0, 0, [])), (103, (53, 104, 0, 0, 0, 0, 0, [])), (104, (4, 105, 0, 0, 0, 0, 0, [])), (105, (31, 108, 11, 0, 6, 0, 0, [])), (108, (31, 111, 6, 0, 8, 0, 0, [])), (111, (29, 114, 8, 1, 0, 0, 0, [])), (114, (53, 115, 0, 0, 0, 0, 0, [])), (115, (0, 116, 0, 0, 0, -1, 0, [])), (116, (53, 117, 0, 0, 0, 0, 0, []))], [])
def tx_X_beginAnew : Tx := ([(0, (4, 1, 0, 0, 0, 0, 0, [])), (1, (31, 4, 11, 1, 0, 0, 0, [])), (4, (50, 7, 1, 1, 0, 0, 0, [0])), (7, (4, 8, 0, 0, 0, 0, 0, [])), (8, (31, 11, 11, 3, 10, 0, 0, [])), (11, (50, 14, 85, 1, 0, 0, 0, [10])), (14, (4, 15, 0, 0, 0, 0, 0, [])), (15, (31, 18, 11, 4, 9, 0, 0, [])), (18, (50, 21, 77, 1, 0, 0, 0, [9])), (21, (0, 22, 0, 0, 0, 0, 0, [])), (22, (5, 23, 1, 0, 0, 0, 0, [])), (23, (2, 24, 1, 0, 0, 0, 0, [])), (24, (4, 25, 0, 0, 0, 0, 0, [])), (25, (31, 28, 11, 9, 20, 0, 0, [])), (28, (36, 29, 0, 0, 0, 0, 0, [])), (29, (24, 32, 3, 45, 0, 0, 0, [])), (32, (4, 33, 0, 0, 0, 0, 0, [])), (33, (31, 36, 11, 9, 20, 0, 0, [])), (36, (2, 37, 1, 0, 0, 0, 0, [])), (37, (0, 38, 0, 0, 0, 0, 0, [])), (38, (42, 39, 0, 0, 0, 0, 0, [])), (39, (8, 42, 1, 0, 0, 1, 0, [])), (42, (26, 45, 0, 23, 0, 0, 0, [])), (45, (0, 46, 0, 0, 0, 0, 0, [])), (46, (5, 47, 1, 0, 0, 0, 0, [])), (47, (2, 48, 1, 0, 0, 0, 0, [])), (48, (4, 49, 0, 0, 0, 0, 0, [])), (49, (31, 52, 11, 8, 24, 0, 0, [])), (52, (36, 53, 0, 0, 0, 0, 0, [])), (53, (24, 56, 3, 78, 0, 0, 0, [])), (56, (4, 57, 0, 0, 0, 0, 0, [])), (57, (31, 60, 11, 8, 24, 0, 0, [])), (60, (2, 61, 1, 0, 0, 0, 0, [])), (61, (41, 62, 0, 0, 0, 0, 0, [])), (62, (7, 63, 2, 0, 0, 0, 0, [])), (63, (4, 64, 2, 0, 0, 0, 0, [])), (64, (28, 67, 0, 72, 0, 0, 0, [])), (67, (4, 68, 2, 0, 0, 0, 0, [])), (68, (0, 69, 0, 0, 0, 0, 0, [])), (69, (33, 72, 1, 2, 0, 0, 0, [])), (72, (8, 75, 1, 0, 0, 1, 0, [])), (75, (26, 78, 0, 47, 0, 0, 0, [])), (78, (55, 79, 0, 0, 0, 0, 0, []))], [(23, [2]), (47, [2])])
def tx_X_manyFrom : Tx := ([(0, (4, 1, 0, 0, 0, 0, 0, [])), (1, (31, 4, 11, 3, 10, 0, 0, [])), (4, (4, 5, 0, 0, 0, 0, 0, [])), (5, (31, 8, 11, 11, 5, 0, 0, [])), (8, (50, 11, 86, 2, 0, 0, 0, [10])), (11, (4, 12, 0, 0, 0, 0, 0, [])), (12, (31, 15, 11, 2, 0, 0, 0, [])), (15, (4, 16, 1, 0, 0, 0, 0, [])), (16, (50, 19, 3, 2, 0, 0, 0, [0])), (19, (4, 20, 0, 0, 0, 0, 0, [])), (20, (31, 23, 11, 3, 10, 0, 0, [])), (23, (4, 24, 0, 0, 0, 0, 0, [])), (24, (31, 27, 11, 11, 5, 0, 0, [])), (27, (4, 28, 0, 0, 0, 0, 0, [])), (28, (31, 31, 11, 2, 0, 0, 0, [])), (31, (0, 32, 0, 0, 0, 0, 0, [])), (32, (50, 35, 90, 4, 2, 0, 0, [10])), (35, (54, 36, 0, 0, 0, 0, 0, []))], [])
def tx_X_strideOf : Tx := ([(0, (4, 1, 0, 0, 0, 0, 0, [])), (1, (31, 4, 11, 3, 10, 0, 0, [])), (4, (4, 5, 0, 0, 0, 0, 0, [])), (5, (31, 8, 11, 11, 5, 0, 0, [])), (8, (50, 11, 86, 2, 0, 0, 0, [10])), (11, (2, 12, 3, 0, 0, 0, 0, [])), (12, (25, 15, 2, 42, 0, 0, 0, [])), (15, (3, 16, 1, 0, 0, 0, 0, [])), (16, (1, 17, 0, 0, 0, 0, 0, [])), (17, (21, 18, 0, 0, 0, 0, 0, [])), (18, (25, 21, 2, 42, 0, 0, 0, [])), (21, (3, 22, 1, 0, 0, 0, 0, [])), (22, (4, 23, 0, 0, 0, 0, 0, [])), (23, (31, 26, 11, 3, 10, 0, 0, [])), (26, (4, 27, 0, 0, 0, 0, 0, [])), (27, (31, 30, 11, 11, 5, 0, 0, [])), (30, (4, 31, 0, 0, 0, 0, 0, [])), (31, (31, 34, 11, 2, 0, 0, 0, [])), (34, (0, 35, 0, 0, 0, 0, 0, [])), (35, (50, 38, 90, 4, 2, 0, 0, [10])), (38, (21, 39, 0, 0, 0, 0, 0, [])), (39, (25, 42, 2, 44, 0, 0, 0, [])), (42, (0, 43, 0, 0, 0, -1, 0, [])), (43, (53, 44, 0, 0, 0, 0, 0, [])), (44, (4, 45, 0, 0, 0, 0, 0, [])), (45, (31, 48, 11, 3, 10, 0, 0, [])), (48, (4, 49, 0, 0, 0, 0, 0, [])), (49, (31, 52, 11, 11, 5, 0, 0, [])), (52, (4, 53, 0, 0, 0, 0, 0, [])), (53, (31, 56, 11, 2, 0, 0, 0, [])), (56, (3, 57, 1, 0, 0, 0, 0, [])), (57, (2, 58, 3, 0, 0, 0, 0, [])), (58, (50, 61, 93, 5, 1, 0, 0, [10])), (61, (53, 62, 0, 0, 0, 0, 0, []))], [])
def tx_X_drawBelow : Tx := ([(0, (4, 1, 0, 0, 0, 0, 0, [])), (1, (4, 2, 0, 0, 0, 0, 0, [])), (2, (30, 5, 11, 13, 0, 0, 0, [])), (5, (1, 8, 293, 0, 0, 0, 1103515245, [])), (8, (13, 9, 2, 0, 0, 0, 0, [])), (9, (1, 12, 295, 0, 0, 0, 12345, [])), (12, (13, 13, 0, 0, 0, 0, 0, [])), (13, (1, 16, 297, 0, 0, 0, 2147483647, [])), (16, (13, 17, 3, 0, 0, 0, 0, [])), (17, (34, 20, 11, 13, 0, 0, 0, [])), (20, (2, 21, 1, 0, 0, 0, 0, [])), (21, (25, 24, 4, 28, 0, 0, 0, [])), (24, (0, 25, 0, 0, 0, 0, 0, [])), (25, (26, 28, 0, 40, 0, 0, 0, [])), (28, (4, 29, 0, 0, 0, 0, 0, [])), (29, (30, 32, 11, 13, 0, 0, 0, [])), (32, (1, 35, 299, 0, 0, 0, 65536, [])), (35, (16, 36, 0, 0, 0, 0, 0, [])), (36, (2, 37, 1, 0, 0, 0, 0, [])), (37, (18, 38, 0, 0, 0, 0, 0, [])), (38, (17, 39, 0, 0, 0, 0, 0, [])), (39, (19, 40, 0, 0, 0, 0, 0, [])), (40, (53, 41, 0, 0, 0, 0, 0, []))], [])
def tx_X_strideWeighing : Tx := ([(0, (0, 1, 0, 0, 0, 0, 0, [])), (1, (5, 2, 2, 0, 0, 0, 0, [])), (2, (0, 3, 0, 0, 0, 0, 0, [])), (3, (5, 4, 3, 0, 0, 0, 0, [])), (4, (2, 5, 3, 0, 0, 0, 0, [])), (5, (4, 6, 0, 0, 0, 0, 0, [])), (6, (31, 9, 11, 11, 5, 0, 0, [])), (9, (29, 12, 5, 8, 0, 0, 0, [])), (12, (24, 15, 3, 54, 0, 0, 0, [])), (15, (2, 16, 3, 0, 0, 0, 0, [])), (16, (4, 17, 0, 0, 0, 0, 0, [])), (17, (31, 20, 11, 10, 20, 0, 0, [])), (20, (36, 21, 0, 0, 0, 0, 0, [])), (21, (24, 24, 3, 54, 0, 0, 0, [])), (24, (2, 25, 2, 0, 0, 0, 0, [])), (25, (4, 26, 0, 0, 0, 0, 0, [])), (26, (31, 29, 11, 10, 20, 0, 0, [])), (29, (2, 30, 3, 0, 0, 0, 0, [])), (30, (37, 31, 0, 0, 0, 0, 0, [])), (31, (9, 32, 0, 0, 0, 0, 0, [])), (32, (5, 33, 2, 0, 0, 0, 0, [])), (33, (2, 34, 2, 0, 0, 0, 0, [])), (34, (2, 35, 1, 0, 0, 0, 0, [])), (35, (24, 38, 5, 48, 0, 0, 0, [])), (38, (4, 39, 0, 0, 0, 0, 0, [])), (39, (31, 42, 11, 11, 5, 0, 0, [])), (42, (31, 45, 5, 0, 20, 0, 0, [])), (45, (2, 46, 3, 0, 0, 0, 0, [])), (46, (37, 47, 0, 0, 0, 0, 0, [])), (47, (53, 48, 0, 0, 0, 0, 0, [])), (48, (8, 51, 3, 0, 0, 1, 0, [])), (51, (26, 54, 0, 4, 0, 0, 0, [])), (54, (0, 55, 0, 0, 0, -1, 0, [])), (55, (53, 56, 0, 0, 0, 0, 0, []))], [(4, [])])
def tx_X_isNoCrowd : Tx := ([(0, (3, 1, 0, 0, 0, 0, 0, [])), (1, (1, 2, 0, 0, 0, 0, 1, [])), (2, (21, 3, 0, 0, 0, 0, 0, [])), (3, (25, 6, 2, 14, 0, 0, 0, [])), (6, (3, 7, 0, 0, 0, 0, 0, [])), (7, (1, 10, 302, 0, 0, 0, 1000000000000, [])), (10, (21, 11, 0, 0, 0, 0, 0, [])), (11, (25, 14, 5, 18, 0, 0, 0, [])), (14, (0, 15, 0, 0, 0, 1, 0, [])), (15, (26, 18, 0, 19, 0, 0, 0, [])), (18, (0, 19, 0, 0, 0, 0, 0, [])), (19, (53, 20, 1, 0, 0, 0, 0, []))], [])
def tx_X_isNoStill : Tx := ([(0, (2, 1, 0, 0, 0, 0, 0, [])), (1, (0, 2, 0, 0, 0, 1, 0, [])), (2, (24, 5, 2, 12, 0, 0, 0, [])), (5, (2, 6, 0, 0, 0, 0, 0, [])), (6, (0, 9, 0, 0, 0, 999, 0, [])), (9, (24, 12, 5, 16, 0, 0, 0, [])), (12, (0, 13, 0, 0, 0, 1, 0, [])), (13, (26, 16, 0, 17, 0, 0, 0, [])), (16, (0, 17, 0, 0, 0, 0, 0, [])), (17, (53, 18, 1, 0, 0, 0, 0, []))], [])
def tx_X_isNoSeed : Tx := ([(0, (2, 1, 0, 0, 0, 0, 0, [])), (1, (25, 4, 2, 11, 0, 0, 0, [])), (4, (2, 5, 0, 0, 0, 0, 0, [])), (5, (0, 8, 0, 0, 0, 9999, 0, [])), (8, (24, 11, 5, 15, 0, 0, 0, [])), (11, (0, 12, 0, 0, 0, 1, 0, [])), (12, (26, 15, 0, 16, 0, 0, 0, [])), (15, (0, 16, 0, 0, 0, 0, 0, [])), (16, (53, 17, 1, 0, 0, 0, 0, []))], [])
def tx_X_commonDivisor : Tx := ([(0, (2, 1, 0, 0, 0, 0, 0, [])), (1, (5, 2, 2, 0, 0, 0, 0, [])), (2, (2, 3, 1, 0, 0, 0, 0, [])), (3, (5, 4, 3, 0, 0, 0, 0, [])), (4, (0, 5, 0, 0, 0, 0, 0, [])), (5, (5, 7, 4, 0, 0, 0, 0, [])), (7, (2, 9, 4, 0, 0, 0, 0, [])), (9, (0, 11, 0, 0, 0, 64, 0, [])), (11, (24, 14, 3, 34, 0, 0, 0, [])), (14, (2, 15, 3, 0, 0, 0, 0, [])), (15, (25, 18, 0, 34, 0, 0, 0, [])), (18, (2, 19, 2, 0, 0, 0, 0, [])), (19, (2, 20, 3, 0, 0, 0, 0, [])), (20, (11, 21, 0, 0, 0, 0, 0, [])), (21, (5, 23, 5, 0, 0, 0, 0, [])), (23, (2, 24, 3, 0, 0, 0, 0, [])), (24, (5, 25, 2, 0, 0, 0, 0, [])), (25, (2, 27, 5, 0, 0, 0, 0, [])), (27, (5, 28, 3, 0, 0, 0, 0, [])), (28, (8, 31, 4, 0, 0, 1, 0, [])), (31, (26, 34, 0, 7, 0, 0, 0, [])), (34, (2, 35, 2, 0, 0, 0, 0, [])), (35, (25, 38, 5, 42, 0, 0, 0, [])), (38, (2, 39, 2, 0, 0, 0, 0, [])), (39, (26, 42, 0, 43, 0, 0, 0, [])), (42, (0, 43, 0, 0, 0, 1, 0, [])), (43, (53, 44, 0, 0, 0, 0, 0, []))], [(7, [0, 1, 5])])
def tx_M_thrown : Tx := ([(0, (4, 1, 0, 0, 0, 0, 0, [])), (1, (29, 4, 12, 0, 0, 0, 0, [])), (4, (53, 5, 0, 0, 0, 0, 0, []))], [])
def tx_M_feed : Tx := ([(0, (4, 1, 0, 0, 0, 0, 0, [])), (1, (0, 2, 0, 0, 0, 0, 0, [])), (2, (32, 5, 12, 0, 0, 0, 0, [])), (5, (4, 6, 0, 0, 0, 0, 0, [])), (6, (3, 7, 1, 0, 0, 0, 0, [])), (7, (50, 10, 140, 2, 0, 0, 0, [12])), (10, (4, 11, 0, 0, 0, 0, 0, [])), (11, (3, 12, 3, 0, 0, 0, 0, [])), (12, (50, 15, 140, 2, 0, 0, 0, [12])), (15, (4, 16, 0, 0, 0, 0, 0, [])), (16, (3, 18, 5, 0, 0, 0, 0, [])), (18, (50, 21, 140, 2, 0, 0, 0, [12])), (21, (4, 22, 0, 0, 0, 0, 0, [])), (22, (29, 25, 12, 2, 0, 0, 0, [])), (25, (53, 26, 0, 0, 0, 0, 0, []))], [])
def tx_M_lay : Tx := ([(0, (0, 2, 0, 0, 0, 56, 0, [])), (2, (5, 3, 3, 0, 0, 0, 0, [])), (3, (2, 4, 3, 0, 0, 0, 0, [])), (4, (25, 7, 2, 75, 0, 0, 0, [])), (7, (3, 8, 1, 0, 0, 0, 0, [])), (8, (2, 9, 3, 0, 0, 0, 0, [])), (9, (15, 10, 0, 0, 0, 0, 0, [])), (10, (19, 11, 0, 0, 0, 0, 0, [])), (11, (0, 14, 0, 0, 0, 255, 0, [])), (14, (9, 15, 3, 0, 0, 0, 0, [])), (15, (5, 17, 4, 0, 0, 0, 0, [])), (17, (2, 19, 4, 0, 0, 0, 0, [])), (19, (0, 21, 0, 0, 0, 10, 0, [])), (21, (24, 24, 0, 38, 0, 0, 0, [])), (24, (2, 26, 4, 0, 0, 0, 0, [])), (26, (0, 28, 0, 0, 0, 32, 0, [])), (28, (24, 31, 2, 69, 0, 0, 0, [])), (31, (2, 33, 4, 0, 0, 0, 0, [])), (33, (0, 35, 0, 0, 0, 126, 0, [])), (35, (24, 38, 4, 69, 0, 0, 0, [])), (38, (4, 39, 0, 0, 0, 0, 0, [])), (39, (29, 42, 12, 2, 0, 0, 0, [])), (42, (0, 45, 0, 0, 0, 1000, 0, [])), (45, (24, 48, 3, 69, 0, 0, 0, [])), (48, (4, 49, 0, 0, 0, 0, 0, [])), (49, (31, 52, 12, 1, 20, 0, 0, [])), (52, (4, 53, 0, 0, 0, 0, 0, [])), (53, (29, 56, 12, 2, 0, 0, 0, [])), (56, (2, 58, 4, 0, 0, 0, 0, [])), (58, (42, 59, 0, 0, 0, 0, 0, [])), (59, (4, 60, 0, 0, 0, 0, 0, [])), (60, (22, 61, 0, 0, 0, 0, 0, [])), (61, (29, 64, 12, 2, 0, 0, 0, [])), (64, (0, 65, 0, 0, 0, 1, 0, [])), (65, (9, 66, 0, 0, 0, 0, 0, [])), (66, (32, 69, 12, 2, 0, 0, 0, [])), (69, (8, 72, 3, 0, 0, -8, 0, [])), (72, (26, 75, 0, 3, 0, 0, 0, [])), (75, (55, 76, 0, 0, 0, 0, 0, []))], [(3, [2, 4]), (38, [2])])
def tx_M_new : Tx := ([(0, (4, 1, 0, 0, 0, 0, 0, [])), (1, (51, 4, 0, 0, 0, 0, 0, [])), (4, (4, 5, 0, 0, 0, 0, 0, [])), (5, (0, 8, 0, 0, 0, 1000, 0, [])), (8, (47, 10, 20, 0, 0, 0, 0, [])), (10, (35, 13, 12, 1, 20, 0, 0, [])), (13, (4, 14, 0, 0, 0, 0, 0, [])), (14, (0, 17, 0, 0, 0, 1002, 0, [])), (17, (47, 19, 20, 0, 0, 0, 0, [])), (19, (35, 22, 12, 4, 20, 0, 0, [])), (22, (4, 23, 0, 0, 0, 0, 0, [])), (23, (0, 26, 0, 0, 0, 1002, 0, [])), (26, (47, 28, 20, 0, 0, 0, 0, [])), (28, (35, 31, 12, 5, 20, 0, 0, [])), (31, (4, 32, 0, 0, 0, 0, 0, [])), (32, (0, 35, 0, 0, 0, 1002, 0, [])), (35, (47, 37, 21, 0, 0, 0, 0, [])), (37, (35, 40, 12, 6, 21, 0, 0, [])), (40, (4, 41, 0, 0, 0, 0, 0, [])), (41, (0, 43, 0, 0, 0, 22, 0, [])), (43, (47, 45, 21, 0, 0, 0, 0, [])), (45, (22, 46, 0, 0, 0, 0, 0, [])), (46, (0, 47, 0, 0, 0, 0, 0, [])), (47, (1, 50, 34, 0, 0, 0, 36623839, [])), (50, (43, 51, 0, 0, 0, 0, 0, [])), (51, (22, 52, 0, 0, 0, 0, 0, [])), (52, (0, 53, 0, 0, 0, 1, 0, [])), (53, (1, 56, 36, 0, 0, 0, 50169877366, [])), (56, (43, 57, 0, 0, 0, 0, 0, [])), (57, (22, 58, 0, 0, 0, 0, 0, [])), (58, (0, 59, 0, 0, 0, 2, 0, [])), (59, (1, 62, 38, 0, 0, 0, 173197865, [])), (62, (43, 63, 0, 0, 0, 0, 0, [])), (63, (22, 64, 0, 0, 0, 0, 0, [])), (64, (0, 65, 0, 0, 0, 3, 0, [])), (65, (1, 68, 40, 0, 0, 0, 6541130, [])), (68, (43, 69, 0, 0, 0, 0, 0, [])), (69, (22, 70, 0, 0, 0, 0, 0, [])), (70, (0, 71, 0, 0, 0, 4, 0, [])), (71, (1, 74, 42, 0, 0, 0, 242021829, [])), (74, (43, 75, 0, 0, 0, 0, 0, [])), (75, (22, 76, 0, 0, 0, 0, 0, [])), (76, (0, 77, 0, 0, 0, 5, 0, [])), (77, (1, 80, 44, 0, 0, 0, 30884514577, [])), (80, (43, 81, 0, 0, 0, 0, 0, [])), (81, (22, 82, 0, 0, 0, 0, 0, [])), (82, (0, 84, 0, 0, 0, 6, 0, [])), (84, (1, 87, 46, 0, 0, 0, 2793, [])), (87, (43, 88, 0, 0, 0, 0, 0, [])), (88, (22, 89, 0, 0, 0, 0, 0, [])), (89, (0, 91, 0, 0, 0, 7, 0, [])), (91, (1, 94, 48, 0, 0, 0, 325028, [])), (94, (43, 95, 0, 0, 0, 0, 0, [])), (95, (22, 96, 0, 0, 0, 0, 0, [])), (96, (0, 98, 0, 0, 0, 8, 0, [])), (98, (1, 101, 50, 0, 0, 0, 614923, [])), (101, (43, 102, 0, 0, 0, 0, 0, [])), (102, (22, 103, 0, 0, 0, 0, 0, [])), (103, (0, 105, 0, 0, 0, 9, 0, [])), (105, (1, 108, 52, 0, 0, 0, 34200674, [])), (108, (43, 109, 0, 0, 0, 0, 0, [])), (109, (22, 110, 0, 0, 0, 0, 0, [])), (110, (0, 112, 0, 0, 0, 10, 0, [])), (112, (1, 115, 54, 0, 0, 0, 6411565, [])), (115, (43, 116, 0, 0, 0, 0, 0, [])), (116, (22, 117, 0, 0, 0, 0, 0, [])), (117, (0, 119, 0, 0, 0, 11, 0, [])), (119, (1, 122, 56, 0, 0, 0, 755, [])), (122, (43, 123, 0, 0, 0, 0, 0, [])), (123, (22, 124, 0, 0, 0, 0, 0, [])), (124, (0, 126, 0, 0, 0, 12, 0, [])), (126, (1, 129, 58, 0, 0, 0, 14037783, [])), (129, (43, 130, 0, 0, 0, 0, 0, [])), (130, (22, 131, 0, 0, 0, 0, 0, [])), (131, (0, 133, 0, 0, 0, 13, 0, [])), (133, (1, 136, 60, 0, 0, 0, 37957098, [])), (136, (43, 137, 0, 0, 0, 0, 0, [])), (137, (22, 138, 0, 0, 0, 0, 0, [])), (138, (0, 140, 0, 0, 0, 14, 0, [])), (140, (1, 143, 62, 0, 0, 0, 679583, [])), (143, (43, 144, 0, 0, 0, 0, 0, [])), (144, (22, 145, 0, 0, 0, 0, 0, [])), (145, (0, 147, 0, 0, 0, 15, 0, [])), (147, (1, 150, 64, 0, 0, 0, 19741, [])), (150, (43, 151, 0, 0, 0, 0, 0, [])), (151, (22, 152, 0, 0, 0, 0, 0, [])), (152, (0, 154, 0, 0, 0, 16, 0, [])), (154, (1, 157, 66, 0, 0, 0, 1891, [])), (157, (43, 158, 0, 0, 0, 0, 0, [])), (158, (22, 159, 0, 0, 0, 0, 0, [])), (159, (0, 161, 0, 0, 0, 17, 0, [])), (161, (1, 164, 68, 0, 0, 0, 573, [])), (164, (43, 165, 0, 0, 0, 0, 0, [])), (165, (22, 166, 0, 0, 0, 0, 0, [])), (166, (0, 168, 0, 0, 0, 18, 0, [])), (168, (1, 171, 70, 0, 0, 0, 1355942631, [])), (171, (43, 172, 0, 0, 0, 0, 0, [])), (172, (22, 173, 0, 0, 0, 0, 0, [])), (173, (0, 175, 0, 0, 0, 19, 0, [])), (175, (1, 178, 72, 0, 0, 0, 609928, [])), (178, (43, 179, 0, 0, 0, 0, 0, [])), (179, (22, 180, 0, 0, 0, 0, 0, [])), (180, (0, 182, 0, 0, 0, 20, 0, [])), (182, (1, 185, 74, 0, 0, 0, 989988, [])), (185, (43, 186, 0, 0, 0, 0, 0, [])), (186, (22, 187, 0, 0, 0, 0, 0, [])), (187, (0, 189, 0, 0, 0, 21, 0, [])), (189, (1, 192, 76, 0, 0, 0, 37549131, [])), (192, (43, 193, 0, 0, 0, 0, 0, [])), (193, (35, 196, 12, 9, 21, 0, 0, [])), (196, (4, 197, 0, 0, 0, 0, 0, [])), (197, (0, 200, 0, 0, 0, 140, 0, [])), (200, (47, 202, 20, 0, 0, 0, 0, [])), (202, (35, 205, 12, 10, 20, 0, 0, [])), (205, (4, 206, 0, 0, 0, 0, 0, [])), (206, (0, 209, 0, 0, 0, 2200, 0, [])), (209, (47, 211, 20, 0, 0, 0, 0, [])), (211, (35, 214, 12, 11, 20, 0, 0, [])), (214, (4, 215, 0, 0, 0, 0, 0, [])), (215, (0, 218, 0, 0, 0, 2200, 0, [])), (218, (47, 220, 20, 0, 0, 0, 0, [])), (220, (35, 223, 12, 12, 20, 0, 0, [])), (223, (4, 224, 0, 0, 0, 0, 0, [])), (224, (0, 225, 0, 0, 0, 4, 0, [])), (225, (47, 227, 20, 0, 0, 0, 0, [])), (227, (35, 230, 12, 15, 20, 0, 0, [])), (230, (4, 231, 0, 0, 0, 0, 0, [])), (231, (0, 234, 0, 0, 0, 1100, 0, [])), (234, (47, 236, 20, 0, 0, 0, 0, [])), (236, (35, 239, 12, 16, 20, 0, 0, [])), (239, (4, 240, 0, 0, 0, 0, 0, [])), (240, (0, 243, 0, 0, 0, 420, 0, [])), (243, (47, 245, 20, 0, 0, 0, 0, [])), (245, (35, 248, 12, 17, 20, 0, 0, [])), (248, (4, 249, 0, 0, 0, 0, 0, [])), (249, (0, 250, 0, 0, 0, 4, 0, [])), (250, (47, 252, 23, 0, 0, 0, 0, [])), (252, (35, 255, 12, 18, 23, 0, 0, [])), (255, (4, 256, 0, 0, 0, 0, 0, [])), (256, (0, 258, 103, 0, 0, 294175, 0, [])), (258, (47, 260, 21, 0, 0, 0, 0, [])), (260, (35, 263, 12, 23, 21, 0, 0, [])), (263, (4, 264, 0, 0, 0, 0, 0, [])), (264, (0, 267, 0, 0, 0, 144, 0, [])), (267, (47, 269, 21, 0, 0, 0, 0, [])), (269, (35, 272, 12, 25, 21, 0, 0, [])), (272, (4, 273, 0, 0, 0, 0, 0, [])), (273, (0, 276, 0, 0, 0, 144, 0, [])), (276, (47, 278, 21, 0, 0, 0, 0, [])), (278, (35, 281, 12, 26, 21, 0, 0, [])), (281, (4, 282, 0, 0, 0, 0, 0, [])), (282, (0, 285, 0, 0, 0, 144, 0, [])), (285, (47, 287, 21, 0, 0, 0, 0, [])), (287, (35, 290, 12, 27, 21, 0, 0, [])), (290, (4, 291, 0, 0, 0, 0, 0, [])), (291, (0, 294, 0, 0, 0, 144, 0, [])), (294, (47, 296, 21, 0, 0, 0, 0, [])), (296, (35, 299, 12, 28, 21, 0, 0, [])), (299, (4, 300, 0, 0, 0, 0, 0, [])), (300, (0, 302, 0, 0, 0, 41, 0, [])), (302, (47, 304, 21, 0, 0, 0, 0, [])), (304, (35, 307, 12, 29, 21, 0, 0, [])), (307, (4, 308, 0, 0, 0, 0, 0, [])), (308, (0, 311, 0, 0, 0, 625, 0, [])), (311, (47, 313, 21, 0, 0, 0, 0, [])), (313, (35, 316, 12, 31, 21, 0, 0, [])), (316, (4, 317, 0, 0, 0, 0, 0, [])), (317, (0, 319, 0, 0, 0, 41, 0, [])), (319, (47, 321, 20, 0, 0, 0, 0, [])), (321, (35, 324, 12, 32, 20, 0, 0, [])), (324, (4, 325, 0, 0, 0, 0, 0, [])), (325, (0, 328, 0, 0, 0, 1681, 0, [])), (328, (47, 330, 23, 0, 0, 0, 0, [])), (330, (35, 333, 12, 33, 23, 0, 0, [])), (333, (4, 334, 0, 0, 0, 0, 0, [])), (334, (0, 336, 0, 0, 0, 41, 0, [])), (336, (47, 338, 20, 0, 0, 0, 0, [])), (338, (35, 341, 12, 34, 20, 0, 0, [])), (341, (4, 342, 0, 0, 0, 0, 0, [])), (342, (0, 344, 0, 0, 0, 41, 0, [])), (344, (47, 346, 23, 0, 0, 0, 0, [])), (346, (35, 349, 12, 35, 23, 0, 0, [])), (349, (4, 350, 0, 0, 0, 0, 0, [])), (350, (0, 351, 0, 0, 0, 0, 0, [])), (351, (50, 354, 155, 2, 0, 0, 0, [12])), (354, (4, 355, 0, 0, 0, 0, 0, [])), (355, (31, 358, 12, 10, 20, 0, 0, [])), (358, (0, 359, 0, 0, 0, 0, 0, [])), (359, (0, 360, 0, 0, 0, 1, 0, [])), (360, (42, 361, 0, 0, 0, 0, 0, [])), (361, (4, 362, 0, 0, 0, 0, 0, [])), (362, (31, 365, 12, 10, 20, 0, 0, [])), (365, (0, 367, 0, 0, 0, 8, 0, [])), (367, (0, 368, 0, 0, 0, 2, 0, [])), (368, (42, 369, 0, 0, 0, 0, 0, [])), (369, (4, 370, 0, 0, 0, 0, 0, [])), (370, (31, 373, 12, 10, 20, 0, 0, [])), (373, (0, 375, 0, 0, 0, 9, 0, [])), (375, (0, 376, 0, 0, 0, 1, 0, [])), (376, (42, 377, 0, 0, 0, 0, 0, [])), (377, (4, 378, 0, 0, 0, 0, 0, [])), (378, (31, 381, 12, 10, 20, 0, 0, [])), (381, (0, 383, 0, 0, 0, 10, 0, [])), (383, (0, 384, 0, 0, 0, 2, 0, [])), (384, (42, 385, 0, 0, 0, 0, 0, [])), (385, (55, 386, 0, 0, 0, 0, 0, []))], [(196, []), (239, []), (281, []), (324, []), (361, [])])
def tx_M_isLetter : Tx := ([(0, (2, 1, 0, 0, 0, 0, 0, [])), (1, (0, 3, 0, 0, 0, 97, 0, [])), (3, (24, 6, 2, 16, 0, 0, 0, [])), (6, (2, 7, 0, 0, 0, 0, 0, [])), (7, (0, 9, 0, 0, 0, 122, 0, [])), (9, (24, 12, 4, 16, 0, 0, 0, [])), (12, (0, 13, 0, 0, 0, 1, 0, [])), (13, (26, 16, 0, 17, 0, 0, 0, [])), (16, (0, 17, 0, 0, 0, 0, 0, [])), (17, (53, 18, 1, 0, 0, 0, 0, []))], [])
def tx_M_isDigit : Tx := ([(0, (2, 1, 0, 0, 0, 0, 0, [])), (1, (0, 3, 0, 0, 0, 48, 0, [])), (3, (24, 6, 2, 16, 0, 0, 0, [])), (6, (2, 7, 0, 0, 0, 0, 0, [])), (7, (0, 9, 0, 0, 0, 57, 0, [])), (9, (24, 12, 4, 16, 0, 0, 0, [])), (12, (0, 13, 0, 0, 0, 1, 0, [])), (13, (26, 16, 0, 17, 0, 0, 0, [])), (16, (0, 17, 0, 0, 0, 0, 0, [])), (17, (53, 18, 1, 0, 0, 0, 0, []))], [])
def tx_M_rank : Tx := ([(0, (2, 1, 0, 0, 0, 0, 0, [])), (1, (50, 4, 142, 1, 1, 0, 0, [])), (4, (25, 7, 0, 14, 0, 0, 0, [])), (7, (2, 8, 0, 0, 0, 0, 0, [])), (8, (0, 10, 0, 0, 0, 96, 0, [])), (10, (9, 11, 1, 0, 0, 0, 0, [])), (11, (26, 14, 0, 18, 0, 0, 0, [])), (14, (2, 15, 0, 0, 0, 0, 0, [])), (15, (0, 17, 0, 0, 0, 21, 0, [])), (17, (9, 18, 1, 0, 0, 0, 0, [])), (18, (53, 19, 0, 0, 0, 0, 0, []))], [])
def tx_M_isSignOf : Tx := ([(0, (2, 1, 0, 0, 0, 0, 0, [])), (1, (0, 3, 0, 0, 0, 40, 0, [])), (3, (24, 6, 0, 48, 0, 0, 0, [])), (6, (2, 7, 0, 0, 0, 0, 0, [])), (7, (0, 9, 0, 0, 0, 41, 0, [])), (9, (24, 12, 0, 48, 0, 0, 0, [])), (12, (2, 13, 0, 0, 0, 0, 0, [])), (13, (0, 15, 0, 0, 0, 59, 0, [])), (15, (24, 18, 0, 48, 0, 0, 0, [])), (18, (2, 19, 0, 0, 0, 0, 0, [])), (19, (0, 21, 0, 0, 0, 61, 0, [])), (21, (24, 24, 0, 48, 0, 0, 0, [])), (24, (2, 25, 0, 0, 0, 0, 0, [])), (25, (0, 27, 0, 0, 0, 60, 0, [])), (27, (24, 30, 0, 48, 0, 0, 0, [])), (30, (2, 31, 0, 0, 0, 0, 0, [])), (31, (0, 33, 0, 0, 0, 43, 0, [])), (33, (24, 36, 0, 48, 0, 0, 0, [])), (36, (2, 37, 0, 0, 0, 0, 0, [])), (37, (0, 39, 0, 0, 0, 45, 0, [])), (39, (24, 42, 0, 48, 0, 0, 0, [])), (42, (2, 43, 0, 0, 0, 0, 0, [])), (43, (0, 45, 0, 0, 0, 42, 0, [])), (45, (24, 48, 1, 52, 0, 0, 0, [])), (48, (0, 49, 0, 0, 0, 1, 0, [])), (49, (26, 52, 0, 53, 0, 0, 0, [])), (52, (0, 53, 0, 0, 0, 0, 0, [])), (53, (53, 54, 1, 0, 0, 0, 0, []))], [(6, [])])
def tx_M_cutAll : Tx := ([(0, (4, 1, 0, 0, 0, 0, 0, [])), (1, (4, 2, 0, 0, 0, 0, 0, [])), (2, (29, 5, 12, 2, 0, 0, 0, [])), (5, (32, 8, 12, 3, 0, 0, 0, [])), (8, (4, 9, 0, 0, 0, 0, 0, [])), (9, (0, 10, 0, 0, 0, 0, 0, [])), (10, (32, 13, 12, 2, 0, 0, 0, [])), (13, (0, 14, 0, 0, 0, 0, 0, [])), (14, (5, 15, 1, 0, 0, 0, 0, [])), (15, (0, 16, 0, 0, 0, 0, 0, [])), (16, (5, 17, 2, 0, 0, 0, 0, [])), (17, (2, 18, 2, 0, 0, 0, 0, [])), (18, (4, 19, 0, 0, 0, 0, 0, [])), (19, (29, 22, 12, 3, 0, 0, 0, [])), (22, (24, 25, 3, 279, 0, 0, 0, [])), (25, (4, 26, 0, 0, 0, 0, 0, [])), (26, (31, 29, 12, 1, 20, 0, 0, [])), (29, (2, 30, 2, 0, 0, 0, 0, [])), (30, (37, 31, 0, 0, 0, 0, 0, [])), (31, (5, 32, 3, 0, 0, 0, 0, [])), (32, (2, 33, 3, 0, 0, 0, 0, [])), (33, (0, 35, 0, 0, 0, 10, 0, [])), (35, (24, 38, 0, 44, 0, 0, 0, [])), (38, (2, 39, 3, 0, 0, 0, 0, [])), (39, (0, 41, 0, 0, 0, 32, 0, [])), (41, (24, 44, 1, 50, 0, 0, 0, [])), (44, (8, 47, 2, 0, 0, 1, 0, [])), (47, (26, 50, 0, 17, 0, 0, 0, [])), (50, (2, 51, 2, 0, 0, 0, 0, [])), (51, (5, 53, 4, 0, 0, 0, 0, [])), (53, (1, 54, 0, 0, 0, 0, 0, [])), (54, (6, 56, 5, 0, 0, 0, 0, [])), (56, (4, 57, 0, 0, 0, 0, 0, [])), (57, (31, 60, 12, 5, 20, 0, 0, [])), (60, (2, 61, 1, 0, 0, 0, 0, [])), (61, (2, 62, 2, 0, 0, 0, 0, [])), (62, (42, 63, 0, 0, 0, 0, 0, [])), (63, (2, 64, 3, 0, 0, 0, 0, [])), (64, (50, 67, 142, 1, 1, 0, 0, [])), (67, (25, 70, 0, 152, 0, 0, 0, [])), (70, (2, 71, 2, 0, 0, 0, 0, [])), (71, (4, 72, 0, 0, 0, 0, 0, [])), (72, (29, 75, 12, 3, 0, 0, 0, [])), (75, (24, 78, 3, 129, 0, 0, 0, [])), (78, (4, 79, 0, 0, 0, 0, 0, [])), (79, (31, 82, 12, 1, 20, 0, 0, [])), (82, (2, 83, 2, 0, 0, 0, 0, [])), (83, (37, 84, 0, 0, 0, 0, 0, [])), (84, (50, 87, 142, 1, 1, 0, 0, [])), (87, (25, 90, 0, 129, 0, 0, 0, [])), (90, (2, 91, 2, 0, 0, 0, 0, [])), (91, (2, 93, 4, 0, 0, 0, 0, [])), (93, (9, 94, 1, 0, 0, 0, 0, [])), (94, (0, 96, 0, 0, 0, 8, 0, [])), (96, (24, 99, 3, 119, 0, 0, 0, [])), (99, (1, 102, 148, 0, 0, 0, 37, [])), (102, (3, 104, 5, 0, 0, 0, 0, [])), (104, (13, 105, 2, 0, 0, 0, 0, [])), (105, (4, 106, 0, 0, 0, 0, 0, [])), (106, (31, 109, 12, 1, 20, 0, 0, [])), (109, (2, 110, 2, 0, 0, 0, 0, [])), (110, (37, 111, 0, 0, 0, 0, 0, [])), (111, (50, 114, 144, 1, 1, 0, 0, [])), (114, (18, 115, 0, 0, 0, 0, 0, [])), (115, (13, 116, 0, 0, 0, 0, 0, [])), (116, (26, 119, 0, 121, 0, 0, 0, [])), (119, (3, 121, 5, 0, 0, 0, 0, [])), (121, (6, 123, 5, 0, 0, 0, 0, [])), (123, (8, 126, 2, 0, 0, 1, 0, [])), (126, (26, 129, 0, 70, 0, 0, 0, [])), (129, (4, 130, 0, 0, 0, 0, 0, [])), (130, (31, 133, 12, 4, 20, 0, 0, [])), (133, (2, 134, 1, 0, 0, 0, 0, [])), (134, (2, 135, 2, 0, 0, 0, 0, [])), (135, (2, 137, 4, 0, 0, 0, 0, [])), (137, (9, 138, 1, 0, 0, 0, 0, [])), (138, (0, 140, 0, 0, 0, 8, 0, [])), (140, (24, 143, 5, 147, 0, 0, 0, [])), (143, (0, 144, 0, 0, 0, 4, 0, [])), (144, (26, 147, 0, 148, 0, 0, 0, [])), (147, (0, 148, 0, 0, 0, 1, 0, [])), (148, (42, 149, 0, 0, 0, 0, 0, [])), (149, (26, 152, 0, 265, 0, 0, 0, [])), (152, (2, 153, 3, 0, 0, 0, 0, [])), (153, (50, 156, 143, 1, 1, 0, 0, [])), (156, (25, 159, 0, 240, 0, 0, 0, [])), (159, (2, 160, 2, 0, 0, 0, 0, [])), (160, (4, 161, 0, 0, 0, 0, 0, [])), (161, (29, 164, 12, 3, 0, 0, 0, [])), (164, (24, 167, 3, 218, 0, 0, 0, [])), (167, (4, 168, 0, 0, 0, 0, 0, [])), (168, (31, 171, 12, 1, 20, 0, 0, [])), (171, (2, 172, 2, 0, 0, 0, 0, [])), (172, (37, 173, 0, 0, 0, 0, 0, [])), (173, (50, 176, 143, 1, 1, 0, 0, [])), (176, (25, 179, 0, 218, 0, 0, 0, [])), (179, (2, 180, 2, 0, 0, 0, 0, [])), (180, (2, 182, 4, 0, 0, 0, 0, [])), (182, (9, 183, 1, 0, 0, 0, 0, [])), (183, (0, 184, 0, 0, 0, 4, 0, [])), (184, (24, 187, 3, 208, 0, 0, 0, [])), (187, (1, 190, 157, 0, 0, 0, 10, [])), (190, (3, 192, 5, 0, 0, 0, 0, [])), (192, (13, 193, 2, 0, 0, 0, 0, [])), (193, (4, 194, 0, 0, 0, 0, 0, [])), (194, (31, 197, 12, 1, 20, 0, 0, [])), (197, (2, 198, 2, 0, 0, 0, 0, [])), (198, (37, 199, 0, 0, 0, 0, 0, [])), (199, (18, 200, 0, 0, 0, 0, 0, [])), (200, (13, 201, 0, 0, 0, 0, 0, [])), (201, (1, 204, 159, 0, 0, 0, 48, [])), (204, (13, 205, 1, 0, 0, 0, 0, [])), (205, (26, 208, 0, 210, 0, 0, 0, [])), (208, (3, 210, 5, 0, 0, 0, 0, [])), (210, (6, 212, 5, 0, 0, 0, 0, [])), (212, (8, 215, 2, 0, 0, 1, 0, [])), (215, (26, 218, 0, 159, 0, 0, 0, [])), (218, (4, 219, 0, 0, 0, 0, 0, [])), (219, (31, 222, 12, 4, 20, 0, 0, [])), (222, (2, 223, 1, 0, 0, 0, 0, [])), (223, (2, 224, 2, 0, 0, 0, 0, [])), (224, (2, 226, 4, 0, 0, 0, 0, [])), (226, (9, 227, 1, 0, 0, 0, 0, [])), (227, (0, 228, 0, 0, 0, 4, 0, [])), (228, (24, 231, 5, 235, 0, 0, 0, [])), (231, (0, 232, 0, 0, 0, 4, 0, [])), (232, (26, 235, 0, 236, 0, 0, 0, [])), (235, (0, 236, 0, 0, 0, 2, 0, [])), (236, (42, 237, 0, 0, 0, 0, 0, [])), (237, (26, 240, 0, 265, 0, 0, 0, [])), (240, (2, 241, 3, 0, 0, 0, 0, [])), (241, (18, 242, 0, 0, 0, 0, 0, [])), (242, (6, 244, 5, 0, 0, 0, 0, [])), (244, (4, 245, 0, 0, 0, 0, 0, [])), (245, (31, 248, 12, 4, 20, 0, 0, [])), (248, (2, 249, 1, 0, 0, 0, 0, [])), (249, (2, 250, 3, 0, 0, 0, 0, [])), (250, (50, 253, 145, 1, 1, 0, 0, [])), (253, (25, 256, 0, 260, 0, 0, 0, [])), (256, (0, 257, 0, 0, 0, 3, 0, [])), (257, (26, 260, 0, 261, 0, 0, 0, [])), (260, (0, 261, 0, 0, 0, 4, 0, [])), (261, (42, 262, 0, 0, 0, 0, 0, [])), (262, (8, 265, 2, 0, 0, 1, 0, [])), (265, (4, 266, 0, 0, 0, 0, 0, [])), (266, (31, 269, 12, 6, 21, 0, 0, [])), (269, (2, 270, 1, 0, 0, 0, 0, [])), (270, (3, 272, 5, 0, 0, 0, 0, [])), (272, (43, 273, 0, 0, 0, 0, 0, [])), (273, (8, 276, 1, 0, 0, 1, 0, [])), (276, (26, 279, 0, 17, 0, 0, 0, [])), (279, (4, 280, 0, 0, 0, 0, 0, [])), (280, (31, 283, 12, 4, 20, 0, 0, [])), (283, (2, 284, 1, 0, 0, 0, 0, [])), (284, (0, 285, 0, 0, 0, 0, 0, [])), (285, (42, 286, 0, 0, 0, 0, 0, [])), (286, (4, 287, 0, 0, 0, 0, 0, [])), (287, (31, 290, 12, 5, 20, 0, 0, [])), (290, (2, 291, 1, 0, 0, 0, 0, [])), (291, (4, 292, 0, 0, 0, 0, 0, [])), (292, (29, 295, 12, 3, 0, 0, 0, [])), (295, (42, 296, 0, 0, 0, 0, 0, [])), (296, (4, 297, 0, 0, 0, 0, 0, [])), (297, (0, 298, 0, 0, 0, 0, 0, [])), (298, (32, 301, 12, 7, 0, 0, 0, [])), (301, (4, 302, 0, 0, 0, 0, 0, [])), (302, (0, 303, 0, 0, 0, 0, 0, [])), (303, (32, 306, 12, 8, 0, 0, 0, [])), (306, (55, 307, 0, 0, 0, 0, 0, []))], [(17, [3, 4, 5, 6]), (25, [3, 4, 5, 6]), (70, [3, 6]), (129, [3, 6]), (148, [3, 4, 6]), (159, [3, 6]), (218, [3, 6]), (236, [3, 4, 6]), (261, [3, 4, 6])])
def tx_M_wrong : Tx := ([(0, (4, 1, 0, 0, 0, 0, 0, [])), (1, (29, 4, 12, 8, 0, 0, 0, [])), (4, (25, 7, 1, 25, 0, 0, 0, [])), (7, (4, 8, 0, 0, 0, 0, 0, [])), (8, (2, 9, 1, 0, 0, 0, 0, [])), (9, (0, 11, 0, 0, 0, 16, 0, [])), (11, (4, 12, 0, 0, 0, 0, 0, [])), (12, (31, 15, 12, 5, 20, 0, 0, [])), (15, (4, 16, 0, 0, 0, 0, 0, [])), (16, (29, 19, 12, 7, 0, 0, 0, [])), (19, (37, 20, 0, 0, 0, 0, 0, [])), (20, (9, 21, 2, 0, 0, 0, 0, [])), (21, (9, 22, 0, 0, 0, 0, 0, [])), (22, (32, 25, 12, 8, 0, 0, 0, [])), (25, (55, 26, 0, 0, 0, 0, 0, []))], [])
def tx_M_isSign : Tx := ([(0, (4, 1, 0, 0, 0, 0, 0, [])), (1, (29, 4, 12, 8, 0, 0, 0, [])), (4, (25, 7, 1, 39, 0, 0, 0, [])), (7, (4, 8, 0, 0, 0, 0, 0, [])), (8, (31, 11, 12, 4, 20, 0, 0, [])), (11, (4, 12, 0, 0, 0, 0, 0, [])), (12, (29, 15, 12, 7, 0, 0, 0, [])), (15, (37, 16, 0, 0, 0, 0, 0, [])), (16, (0, 17, 0, 0, 0, 3, 0, [])), (17, (24, 20, 1, 39, 0, 0, 0, [])), (20, (4, 21, 0, 0, 0, 0, 0, [])), (21, (31, 24, 12, 6, 21, 0, 0, [])), (24, (4, 25, 0, 0, 0, 0, 0, [])), (25, (29, 28, 12, 7, 0, 0, 0, [])), (28, (38, 29, 0, 0, 0, 0, 0, [])), (29, (2, 30, 1, 0, 0, 0, 0, [])), (30, (18, 31, 0, 0, 0, 0, 0, [])), (31, (21, 32, 0, 0, 0, 0, 0, [])), (32, (25, 35, 1, 39, 0, 0, 0, [])), (35, (0, 36, 0, 0, 0, 1, 0, [])), (36, (26, 39, 0, 40, 0, 0, 0, [])), (39, (0, 40, 0, 0, 0, 0, 0, [])), (40, (53, 41, 1, 0, 0, 0, 0, []))], [])
def tx_M_isWord : Tx := ([(0, (4, 1, 0, 0, 0, 0, 0, [])), (1, (29, 4, 12, 8, 0, 0, 0, [])), (4, (25, 7, 1, 43, 0, 0, 0, [])), (7, (4, 8, 0, 0, 0, 0, 0, [])), (8, (31, 11, 12, 4, 20, 0, 0, [])), (11, (4, 12, 0, 0, 0, 0, 0, [])), (12, (29, 15, 12, 7, 0, 0, 0, [])), (15, (37, 16, 0, 0, 0, 0, 0, [])), (16, (0, 17, 0, 0, 0, 1, 0, [])), (17, (24, 20, 1, 43, 0, 0, 0, [])), (20, (4, 21, 0, 0, 0, 0, 0, [])), (21, (31, 24, 12, 6, 21, 0, 0, [])), (24, (4, 25, 0, 0, 0, 0, 0, [])), (25, (29, 28, 12, 7, 0, 0, 0, [])), (28, (38, 29, 0, 0, 0, 0, 0, [])), (29, (4, 30, 0, 0, 0, 0, 0, [])), (30, (31, 33, 12, 9, 21, 0, 0, [])), (33, (2, 34, 1, 0, 0, 0, 0, [])), (34, (38, 35, 0, 0, 0, 0, 0, [])), (35, (21, 36, 0, 0, 0, 0, 0, [])), (36, (25, 39, 1, 43, 0, 0, 0, [])), (39, (0, 40, 0, 0, 0, 1, 0, [])), (40, (26, 43, 0, 44, 0, 0, 0, [])), (43, (0, 44, 0, 0, 0, 0, 0, [])), (44, (53, 45, 1, 0, 0, 0, 0, []))], [])
def tx_M_takeSign : Tx := ([(0, (4, 1, 0, 0, 0, 0, 0, [])), (1, (2, 2, 1, 0, 0, 0, 0, [])), (2, (50, 5, 148, 2, 1, 0, 0, [12])), (5, (25, 8, 0, 21, 0, 0, 0, [])), (8, (4, 9, 0, 0, 0, 0, 0, [])), (9, (22, 10, 0, 0, 0, 0, 0, [])), (10, (29, 13, 12, 7, 0, 0, 0, [])), (13, (0, 14, 0, 0, 0, 1, 0, [])), (14, (9, 15, 0, 0, 0, 0, 0, [])), (15, (32, 18, 12, 7, 0, 0, 0, [])), (18, (26, 21, 0, 26, 0, 0, 0, [])), (21, (4, 22, 0, 0, 0, 0, 0, [])), (22, (0, 23, 0, 0, 0, 1, 0, [])), (23, (50, 26, 147, 2, 0, 0, 0, [12])), (26, (55, 27, 0, 0, 0, 0, 0, []))], [])
def tx_M_hasSign : Tx := ([(0, (4, 1, 0, 0, 0, 0, 0, [])), (1, (2, 2, 1, 0, 0, 0, 0, [])), (2, (50, 5, 148, 2, 1, 0, 0, [12])), (5, (5, 6, 2, 0, 0, 0, 0, [])), (6, (4, 7, 0, 0, 0, 0, 0, [])), (7, (22, 8, 0, 0, 0, 0, 0, [])), (8, (29, 11, 12, 7, 0, 0, 0, [])), (11, (2, 12, 2, 0, 0, 0, 0, [])), (12, (25, 15, 0, 19, 0, 0, 0, [])), (15, (0, 16, 0, 0, 0, 1, 0, [])), (16, (26, 19, 0, 20, 0, 0, 0, [])), (19, (0, 20, 0, 0, 0, 0, 0, [])), (20, (9, 21, 0, 0, 0, 0, 0, [])), (21, (32, 24, 12, 7, 0, 0, 0, [])), (24, (2, 25, 2, 0, 0, 0, 0, [])), (25, (53, 26, 1, 0, 0, 0, 0, []))], [])
def tx_M_hasWord : Tx := ([(0, (4, 1, 0, 0, 0, 0, 0, [])), (1, (2, 2, 1, 0, 0, 0, 0, [])), (2, (50, 5, 149, 2, 1, 0, 0, [12])), (5, (5, 6, 2, 0, 0, 0, 0, [])), (6, (4, 7, 0, 0, 0, 0, 0, [])), (7, (22, 8, 0, 0, 0, 0, 0, [])), (8, (29, 11, 12, 7, 0, 0, 0, [])), (11, (2, 12, 2, 0, 0, 0, 0, [])), (12, (25, 15, 0, 19, 0, 0, 0, [])), (15, (0, 16, 0, 0, 0, 1, 0, [])), (16, (26, 19, 0, 20, 0, 0, 0, [])), (19, (0, 20, 0, 0, 0, 0, 0, [])), (20, (9, 21, 0, 0, 0, 0, 0, [])), (21, (32, 24, 12, 7, 0, 0, 0, [])), (24, (2, 25, 2, 0, 0, 0, 0, [])), (25, (53, 26, 1, 0, 0, 0, 0, []))], [])
def tx_M_takeWord : Tx := ([(0, (4, 1, 0, 0, 0, 0, 0, [])), (1, (2, 2, 1, 0, 0, 0, 0, [])), (2, (50, 5, 152, 2, 1, 0, 0, [12])), (5, (25, 8, 1, 13, 0, 0, 0, [])), (8, (4, 9, 0, 0, 0, 0, 0, [])), (9, (0, 10, 0, 0, 0, 1, 0, [])), (10, (50, 13, 147, 2, 0, 0, 0, [12])), (13, (55, 14, 0, 0, 0, 0, 0, []))], [])
def tx_M_within : Tx := ([(0, (2, 1, 0, 0, 0, 0, 0, [])), (1, (2, 2, 1, 0, 0, 0, 0, [])), (2, (24, 5, 2, 14, 0, 0, 0, [])), (5, (2, 6, 0, 0, 0, 0, 0, [])), (6, (2, 7, 2, 0, 0, 0, 0, [])), (7, (24, 10, 4, 14, 0, 0, 0, [])), (10, (0, 11, 0, 0, 0, 1, 0, [])), (11, (26, 14, 0, 15, 0, 0, 0, [])), (14, (0, 15, 0, 0, 0, 0, 0, [])), (15, (53, 16, 1, 0, 0, 0, 0, []))], [])
def tx_M_standsAsAlways : Tx := ([(0, (0, 1, 0, 0, 0, 0, 0, [])), (1, (5, 2, 2, 0, 0, 0, 0, [])), (2, (2, 3, 2, 0, 0, 0, 0, [])), (3, (0, 5, 0, 0, 0, 70, 0, [])), (5, (24, 8, 3, 23, 0, 0, 0, [])), (8, (4, 9, 0, 0, 0, 0, 0, [])), (9, (31, 12, 12, 10, 20, 0, 0, [])), (12, (2, 13, 1, 0, 0, 0, 0, [])), (13, (2, 14, 2, 0, 0, 0, 0, [])), (14, (9, 15, 0, 0, 0, 0, 0, [])), (15, (0, 16, 0, 0, 0, 0, 0, [])), (16, (42, 17, 0, 0, 0, 0, 0, [])), (17, (8, 20, 2, 0, 0, 1, 0, [])), (20, (26, 23, 0, 2, 0, 0, 0, [])), (23, (4, 24, 0, 0, 0, 0, 0, [])), (24, (31, 27, 12, 10, 20, 0, 0, [])), (27, (2, 28, 1, 0, 0, 0, 0, [])), (28, (0, 29, 0, 0, 0, 1, 0, [])), (29, (9, 30, 0, 0, 0, 0, 0, [])), (30, (0, 31, 0, 0, 0, -1, 0, [])), (31, (42, 32, 0, 0, 0, 0, 0, [])), (32, (4, 33, 0, 0, 0, 0, 0, [])), (33, (31, 36, 12, 10, 20, 0, 0, [])), (36, (2, 37, 1, 0, 0, 0, 0, [])), (37, (0, 38, 0, 0, 0, 2, 0, [])), (38, (9, 39, 0, 0, 0, 0, 0, [])), (39, (0, 40, 0, 0, 0, -1, 0, [])), (40, (42, 41, 0, 0, 0, 0, 0, [])), (41, (4, 42, 0, 0, 0, 0, 0, [])), (42, (31, 45, 12, 10, 20, 0, 0, [])), (45, (2, 46, 1, 0, 0, 0, 0, [])), (46, (0, 47, 0, 0, 0, 4, 0, [])), (47, (9, 48, 0, 0, 0, 0, 0, [])), (48, (0, 50, 0, 0, 0, 40, 0, [])), (50, (42, 51, 0, 0, 0, 0, 0, [])), (51, (4, 52, 0, 0, 0, 0, 0, [])), (52, (31, 55, 12, 10, 20, 0, 0, [])), (55, (2, 56, 1, 0, 0, 0, 0, [])), (56, (0, 57, 0, 0, 0, 5, 0, [])), (57, (9, 58, 0, 0, 0, 0, 0, [])), (58, (0, 59, 0, 0, 0, -1, 0, [])), (59, (42, 60, 0, 0, 0, 0, 0, [])), (60, (4, 61, 0, 0, 0, 0, 0, [])), (61, (31, 64, 12, 10, 20, 0, 0, [])), (64, (2, 65, 1, 0, 0, 0, 0, [])), (65, (0, 67, 0, 0, 0, 7, 0, [])), (67, (9, 68, 0, 0, 0, 0, 0, [])), (68, (0, 69, 0, 0, 0, -1, 0, [])), (69, (42, 70, 0, 0, 0, 0, 0, [])), (70, (55, 71, 0, 0, 0, 0, 0, []))], [(2, []), (23, [2])])
def tx_M_takeNumber : Tx := ([(0, (4, 1, 0, 0, 0, 0, 0, [])), (1, (29, 4, 12, 8, 0, 0, 0, [])), (4, (25, 7, 1, 28, 0, 0, 0, [])), (7, (4, 8, 0, 0, 0, 0, 0, [])), (8, (31, 11, 12, 4, 20, 0, 0, [])), (11, (4, 12, 0, 0, 0, 0, 0, [])), (12, (29, 15, 12, 7, 0, 0, 0, [])), (15, (37, 16, 0, 0, 0, 0, 0, [])), (16, (0, 17, 0, 0, 0, 2, 0, [])), (17, (24, 20, 0, 28, 0, 0, 0, [])), (20, (4, 21, 0, 0, 0, 0, 0, [])), (21, (0, 22, 0, 0, 0, 1, 0, [])), (22, (50, 25, 147, 2, 0, 0, 0, [12])), (25, (26, 28, 0, 70, 0, 0, 0, [])), (28, (4, 29, 0, 0, 0, 0, 0, [])), (29, (29, 32, 12, 8, 0, 0, 0, [])), (32, (25, 35, 1, 70, 0, 0, 0, [])), (35, (4, 36, 0, 0, 0, 0, 0, [])), (36, (31, 39, 12, 6, 21, 0, 0, [])), (39, (4, 40, 0, 0, 0, 0, 0, [])), (40, (29, 43, 12, 7, 0, 0, 0, [])), (43, (38, 44, 0, 0, 0, 0, 0, [])), (44, (2, 45, 1, 0, 0, 0, 0, [])), (45, (18, 46, 0, 0, 0, 0, 0, [])), (46, (21, 47, 0, 0, 0, 0, 0, [])), (47, (25, 50, 2, 65, 0, 0, 0, [])), (50, (4, 51, 0, 0, 0, 0, 0, [])), (51, (31, 54, 12, 6, 21, 0, 0, [])), (54, (4, 55, 0, 0, 0, 0, 0, [])), (55, (29, 58, 12, 7, 0, 0, 0, [])), (58, (38, 59, 0, 0, 0, 0, 0, [])), (59, (2, 60, 2, 0, 0, 0, 0, [])), (60, (18, 61, 0, 0, 0, 0, 0, [])), (61, (21, 62, 0, 0, 0, 0, 0, [])), (62, (25, 65, 5, 70, 0, 0, 0, [])), (65, (4, 66, 0, 0, 0, 0, 0, [])), (66, (0, 67, 0, 0, 0, 4, 0, [])), (67, (50, 70, 147, 2, 0, 0, 0, [12])), (70, (4, 71, 0, 0, 0, 0, 0, [])), (71, (29, 74, 12, 8, 0, 0, 0, [])), (74, (25, 77, 5, 79, 0, 0, 0, [])), (77, (0, 78, 0, 0, 0, 0, 0, [])), (78, (53, 79, 0, 0, 0, 0, 0, [])), (79, (4, 80, 0, 0, 0, 0, 0, [])), (80, (22, 81, 0, 0, 0, 0, 0, [])), (81, (29, 84, 12, 7, 0, 0, 0, [])), (84, (0, 85, 0, 0, 0, 1, 0, [])), (85, (9, 86, 0, 0, 0, 0, 0, [])), (86, (32, 89, 12, 7, 0, 0, 0, [])), (89, (4, 90, 0, 0, 0, 0, 0, [])), (90, (31, 93, 12, 6, 21, 0, 0, [])), (93, (4, 94, 0, 0, 0, 0, 0, [])), (94, (29, 97, 12, 7, 0, 0, 0, [])), (97, (0, 98, 0, 0, 0, 1, 0, [])), (98, (9, 99, 1, 0, 0, 0, 0, [])), (99, (38, 100, 0, 0, 0, 0, 0, [])), (100, (19, 101, 0, 0, 0, 0, 0, [])), (101, (53, 102, 0, 0, 0, 0, 0, []))], [(28, []), (70, [1, 2])])
def tx_M_takeAfter : Tx := ([(0, (4, 1, 0, 0, 0, 0, 0, [])), (1, (2, 2, 1, 0, 0, 0, 0, [])), (2, (50, 5, 153, 2, 0, 0, 0, [12])), (5, (4, 6, 0, 0, 0, 0, 0, [])), (6, (2, 7, 2, 0, 0, 0, 0, [])), (7, (2, 8, 3, 0, 0, 0, 0, [])), (8, (50, 11, 156, 3, 1, 0, 0, [12])), (11, (53, 12, 0, 0, 0, 0, 0, []))], [])
def tx_M_stair : Tx := ([(0, (4, 1, 0, 0, 0, 0, 0, [])), (1, (0, 2, 0, 0, 0, 0, 0, [])), (2, (32, 5, 12, 0, 0, 0, 0, [])), (5, (4, 6, 0, 0, 0, 0, 0, [])), (6, (50, 9, 146, 1, 0, 0, 0, [12])), (9, (4, 10, 0, 0, 0, 0, 0, [])), (10, (0, 11, 0, 0, 0, 0, 0, [])), (11, (32, 14, 12, 13, 0, 0, 0, [])), (14, (4, 15, 0, 0, 0, 0, 0, [])), (15, (0, 16, 0, 0, 0, 0, 0, [])), (16, (32, 19, 12, 14, 0, 0, 0, [])), (19, (4, 20, 0, 0, 0, 0, 0, [])), (20, (0, 22, 0, 0, 0, 70, 0, [])), (22, (50, 25, 155, 2, 0, 0, 0, [12])), (25, (4, 26, 0, 0, 0, 0, 0, [])), (26, (0, 27, 0, 0, 0, 0, 0, [])), (27, (50, 30, 153, 2, 0, 0, 0, [12])), (30, (4, 31, 0, 0, 0, 0, 0, [])), (31, (31, 34, 12, 10, 20, 0, 0, [])), (34, (0, 36, 0, 0, 0, 70, 0, [])), (36, (4, 37, 0, 0, 0, 0, 0, [])), (37, (0, 38, 0, 0, 0, 1, 0, [])), (38, (0, 40, 0, 0, 0, 40, 0, [])), (40, (50, 43, 156, 3, 1, 0, 0, [12])), (43, (42, 44, 0, 0, 0, 0, 0, [])), (44, (4, 45, 0, 0, 0, 0, 0, [])), (45, (0, 47, 0, 0, 0, 59, 0, [])), (47, (50, 50, 150, 2, 0, 0, 0, [12])), (50, (4, 51, 0, 0, 0, 0, 0, [])), (51, (29, 54, 12, 8, 0, 0, 0, [])), (54, (25, 57, 1, 82, 0, 0, 0, [])), (57, (4, 58, 0, 0, 0, 0, 0, [])), (58, (31, 61, 12, 4, 20, 0, 0, [])), (61, (4, 62, 0, 0, 0, 0, 0, [])), (62, (29, 65, 12, 7, 0, 0, 0, [])), (65, (37, 66, 0, 0, 0, 0, 0, [])), (66, (25, 69, 0, 82, 0, 0, 0, [])), (69, (4, 70, 0, 0, 0, 0, 0, [])), (70, (50, 73, 161, 1, 0, 0, 0, [12])), (73, (4, 74, 0, 0, 0, 0, 0, [])), (74, (0, 76, 0, 0, 0, 59, 0, [])), (76, (50, 79, 150, 2, 0, 0, 0, [12])), (79, (26, 82, 0, 50, 0, 0, 0, [])), (82, (4, 83, 0, 0, 0, 0, 0, [])), (83, (29, 86, 12, 8, 0, 0, 0, [])), (86, (25, 89, 5, 94, 0, 0, 0, [])), (89, (4, 90, 0, 0, 0, 0, 0, [])), (90, (29, 93, 12, 8, 0, 0, 0, [])), (93, (53, 94, 0, 0, 0, 0, 0, [])), (94, (4, 95, 0, 0, 0, 0, 0, [])), (95, (31, 98, 12, 10, 20, 0, 0, [])), (98, (0, 100, 0, 0, 0, 78, 0, [])), (100, (37, 101, 0, 0, 0, 0, 0, [])), (101, (25, 104, 1, 128, 0, 0, 0, [])), (104, (4, 105, 0, 0, 0, 0, 0, [])), (105, (31, 108, 12, 10, 20, 0, 0, [])), (108, (0, 110, 0, 0, 0, 78, 0, [])), (110, (0, 111, 0, 0, 0, 2, 0, [])), (111, (42, 112, 0, 0, 0, 0, 0, [])), (112, (4, 113, 0, 0, 0, 0, 0, [])), (113, (31, 116, 12, 10, 20, 0, 0, [])), (116, (0, 118, 0, 0, 0, 79, 0, [])), (118, (0, 119, 0, 0, 0, 1, 0, [])), (119, (42, 120, 0, 0, 0, 0, 0, [])), (120, (4, 121, 0, 0, 0, 0, 0, [])), (121, (31, 124, 12, 10, 20, 0, 0, [])), (124, (0, 126, 0, 0, 0, 80, 0, [])), (126, (0, 127, 0, 0, 0, 2, 0, [])), (127, (42, 128, 0, 0, 0, 0, 0, [])), (128, (0, 129, 0, 0, 0, 0, 0, [])), (129, (5, 130, 1, 0, 0, 0, 0, [])), (130, (2, 131, 1, 0, 0, 0, 0, [])), (131, (0, 133, 0, 0, 0, 70, 0, [])), (133, (24, 136, 3, 157, 0, 0, 0, [])), (136, (4, 137, 0, 0, 0, 0, 0, [])), (137, (31, 140, 12, 10, 20, 0, 0, [])), (140, (2, 141, 1, 0, 0, 0, 0, [])), (141, (4, 142, 0, 0, 0, 0, 0, [])), (142, (31, 145, 12, 10, 20, 0, 0, [])), (145, (0, 147, 0, 0, 0, 70, 0, [])), (147, (2, 148, 1, 0, 0, 0, 0, [])), (148, (9, 149, 0, 0, 0, 0, 0, [])), (149, (37, 150, 0, 0, 0, 0, 0, [])), (150, (42, 151, 0, 0, 0, 0, 0, [])), (151, (8, 154, 1, 0, 0, 1, 0, [])), (154, (26, 157, 0, 130, 0, 0, 0, [])), (157, (4, 158, 0, 0, 0, 0, 0, [])), (158, (50, 161, 159, 1, 0, 0, 0, [12])), (161, (0, 162, 0, 0, 0, 0, 0, [])), (162, (5, 163, 1, 0, 0, 0, 0, [])), (163, (2, 164, 1, 0, 0, 0, 0, [])), (164, (4, 165, 0, 0, 0, 0, 0, [])), (165, (29, 168, 12, 13, 0, 0, 0, [])), (168, (24, 171, 3, 209, 0, 0, 0, [])), (171, (4, 172, 0, 0, 0, 0, 0, [])), (172, (31, 175, 12, 11, 20, 0, 0, [])), (175, (2, 176, 1, 0, 0, 0, 0, [])), (176, (4, 177, 0, 0, 0, 0, 0, [])), (177, (31, 180, 12, 11, 20, 0, 0, [])), (180, (0, 183, 0, 0, 0, 1100, 0, [])), (183, (2, 184, 1, 0, 0, 0, 0, [])), (184, (9, 185, 0, 0, 0, 0, 0, [])), (185, (37, 186, 0, 0, 0, 0, 0, [])), (186, (42, 187, 0, 0, 0, 0, 0, [])), (187, (4, 188, 0, 0, 0, 0, 0, [])), (188, (31, 191, 12, 12, 20, 0, 0, [])), (191, (2, 192, 1, 0, 0, 0, 0, [])), (192, (4, 193, 0, 0, 0, 0, 0, [])), (193, (31, 196, 12, 12, 20, 0, 0, [])), (196, (0, 199, 0, 0, 0, 1100, 0, [])), (199, (2, 200, 1, 0, 0, 0, 0, [])), (200, (9, 201, 0, 0, 0, 0, 0, [])), (201, (37, 202, 0, 0, 0, 0, 0, [])), (202, (42, 203, 0, 0, 0, 0, 0, [])), (203, (8, 206, 1, 0, 0, 1, 0, [])), (206, (26, 209, 0, 163, 0, 0, 0, [])), (209, (0, 210, 0, 0, 0, 0, 0, [])), (210, (5, 211, 1, 0, 0, 0, 0, [])), (211, (2, 212, 1, 0, 0, 0, 0, [])), (212, (0, 214, 0, 0, 0, 84, 0, [])), (214, (24, 217, 3, 230, 0, 0, 0, [])), (217, (4, 218, 0, 0, 0, 0, 0, [])), (218, (31, 221, 12, 17, 20, 0, 0, [])), (221, (2, 222, 1, 0, 0, 0, 0, [])), (222, (0, 223, 0, 0, 0, 0, 0, [])), (223, (42, 224, 0, 0, 0, 0, 0, [])), (224, (8, 227, 1, 0, 0, 1, 0, [])), (227, (26, 230, 0, 211, 0, 0, 0, [])), (230, (0, 231, 0, 0, 0, 0, 0, [])), (231, (5, 232, 1, 0, 0, 0, 0, [])), (232, (2, 233, 1, 0, 0, 0, 0, [])), (233, (0, 234, 0, 0, 0, 4, 0, [])), (234, (24, 237, 3, 250, 0, 0, 0, [])), (237, (4, 238, 0, 0, 0, 0, 0, [])), (238, (31, 241, 12, 18, 23, 0, 0, [])), (241, (2, 242, 1, 0, 0, 0, 0, [])), (242, (0, 243, 0, 0, 0, 0, 0, [])), (243, (45, 244, 0, 0, 0, 0, 0, [])), (244, (8, 247, 1, 0, 0, 1, 0, [])), (247, (26, 250, 0, 232, 0, 0, 0, [])), (250, (0, 251, 0, 0, 0, 0, 0, [])), (251, (53, 252, 0, 0, 0, 0, 0, []))], [(50, [1]), (82, [1]), (130, []), (163, []), (211, []), (232, [])])
def tx_M_sorts : Tx := ([(0, (0, 1, 0, 0, 0, 0, 0, [])), (1, (5, 2, 1, 0, 0, 0, 0, [])), (2, (2, 3, 1, 0, 0, 0, 0, [])), (3, (4, 4, 0, 0, 0, 0, 0, [])), (4, (50, 7, 177, 1, 1, 0, 0, [12])), (7, (24, 10, 3, 92, 0, 0, 0, [])), (10, (0, 11, 0, 0, 0, 0, 0, [])), (11, (5, 12, 2, 0, 0, 0, 0, [])), (12, (2, 13, 2, 0, 0, 0, 0, [])), (13, (2, 14, 1, 0, 0, 0, 0, [])), (14, (24, 17, 3, 86, 0, 0, 0, [])), (17, (4, 18, 0, 0, 0, 0, 0, [])), (18, (31, 21, 12, 10, 20, 0, 0, [])), (21, (0, 23, 0, 0, 0, 9, 0, [])), (23, (2, 24, 2, 0, 0, 0, 0, [])), (24, (9, 25, 0, 0, 0, 0, 0, [])), (25, (37, 26, 0, 0, 0, 0, 0, [])), (26, (5, 27, 3, 0, 0, 0, 0, [])), (27, (4, 28, 0, 0, 0, 0, 0, [])), (28, (31, 31, 12, 10, 20, 0, 0, [])), (31, (0, 33, 0, 0, 0, 9, 0, [])), (33, (2, 34, 1, 0, 0, 0, 0, [])), (34, (9, 35, 0, 0, 0, 0, 0, [])), (35, (37, 36, 0, 0, 0, 0, 0, [])), (36, (5, 38, 4, 0, 0, 0, 0, [])), (38, (4, 39, 0, 0, 0, 0, 0, [])), (39, (31, 42, 12, 10, 20, 0, 0, [])), (42, (0, 44, 0, 0, 0, 9, 0, [])), (44, (2, 45, 2, 0, 0, 0, 0, [])), (45, (9, 46, 0, 0, 0, 0, 0, [])), (46, (2, 47, 3, 0, 0, 0, 0, [])), (47, (2, 49, 4, 0, 0, 0, 0, [])), (49, (24, 52, 3, 56, 0, 0, 0, [])), (52, (2, 53, 3, 0, 0, 0, 0, [])), (53, (26, 56, 0, 58, 0, 0, 0, [])), (56, (2, 58, 4, 0, 0, 0, 0, [])), (58, (42, 59, 0, 0, 0, 0, 0, [])), (59, (4, 60, 0, 0, 0, 0, 0, [])), (60, (31, 63, 12, 10, 20, 0, 0, [])), (63, (0, 65, 0, 0, 0, 9, 0, [])), (65, (2, 66, 1, 0, 0, 0, 0, [])), (66, (9, 67, 0, 0, 0, 0, 0, [])), (67, (2, 68, 3, 0, 0, 0, 0, [])), (68, (2, 70, 4, 0, 0, 0, 0, [])), (70, (24, 73, 3, 78, 0, 0, 0, [])), (73, (2, 75, 4, 0, 0, 0, 0, [])), (75, (26, 78, 0, 79, 0, 0, 0, [])), (78, (2, 79, 3, 0, 0, 0, 0, [])), (79, (42, 80, 0, 0, 0, 0, 0, [])), (80, (8, 83, 2, 0, 0, 1, 0, [])), (83, (26, 86, 0, 12, 0, 0, 0, [])), (86, (8, 89, 1, 0, 0, 1, 0, [])), (89, (26, 92, 0, 2, 0, 0, 0, [])), (92, (55, 93, 0, 0, 0, 0, 0, []))], [(2, [2, 3, 4]), (12, [3, 4]), (58, [])])
def tx_M_isOnce : Tx := ([(0, (4, 1, 0, 0, 0, 0, 0, [])), (1, (29, 4, 12, 14, 0, 0, 0, [])), (4, (2, 5, 1, 0, 0, 0, 0, [])), (5, (9, 6, 7, 0, 0, 0, 0, [])), (6, (0, 7, 0, 0, 0, 1, 0, [])), (7, (9, 8, 3, 0, 0, 0, 0, [])), (8, (0, 9, 0, 0, 0, 1, 0, [])), (9, (24, 12, 1, 17, 0, 0, 0, [])), (12, (4, 13, 0, 0, 0, 0, 0, [])), (13, (0, 14, 0, 0, 0, 3, 0, [])), (14, (50, 17, 147, 2, 0, 0, 0, [12])), (17, (4, 18, 0, 0, 0, 0, 0, [])), (18, (22, 19, 0, 0, 0, 0, 0, [])), (19, (29, 22, 12, 14, 0, 0, 0, [])), (22, (0, 23, 0, 0, 0, 1, 0, [])), (23, (2, 24, 1, 0, 0, 0, 0, [])), (24, (9, 25, 6, 0, 0, 0, 0, [])), (25, (9, 26, 4, 0, 0, 0, 0, [])), (26, (32, 29, 12, 14, 0, 0, 0, [])), (29, (4, 30, 0, 0, 0, 0, 0, [])), (30, (22, 31, 0, 0, 0, 0, 0, [])), (31, (29, 34, 12, 7, 0, 0, 0, [])), (34, (4, 35, 0, 0, 0, 0, 0, [])), (35, (29, 38, 12, 8, 0, 0, 0, [])), (38, (25, 41, 5, 45, 0, 0, 0, [])), (41, (0, 42, 0, 0, 0, 0, 0, [])), (42, (26, 45, 0, 46, 0, 0, 0, [])), (45, (0, 46, 0, 0, 0, 1, 0, [])), (46, (9, 47, 0, 0, 0, 0, 0, [])), (47, (32, 50, 12, 7, 0, 0, 0, [])), (50, (4, 51, 0, 0, 0, 0, 0, [])), (51, (29, 54, 12, 8, 0, 0, 0, [])), (54, (25, 57, 1, 61, 0, 0, 0, [])), (57, (0, 58, 0, 0, 0, 1, 0, [])), (58, (26, 61, 0, 62, 0, 0, 0, [])), (61, (0, 62, 0, 0, 0, 0, 0, [])), (62, (53, 63, 1, 0, 0, 0, 0, []))], [(17, []), (46, [1])])
def tx_M_readLine : Tx := ([(0, (4, 1, 0, 0, 0, 0, 0, [])), (1, (0, 2, 0, 0, 0, 2, 0, [])), (2, (50, 5, 149, 2, 1, 0, 0, [12])), (5, (25, 8, 1, 24, 0, 0, 0, [])), (8, (4, 9, 0, 0, 0, 0, 0, [])), (9, (0, 10, 0, 0, 0, 3, 0, [])), (10, (50, 13, 149, 2, 1, 0, 0, [12])), (13, (25, 16, 1, 24, 0, 0, 0, [])), (16, (4, 17, 0, 0, 0, 0, 0, [])), (17, (0, 18, 0, 0, 0, 5, 0, [])), (18, (50, 21, 149, 2, 1, 0, 0, [12])), (21, (25, 24, 0, 31, 0, 0, 0, [])), (24, (4, 25, 0, 0, 0, 0, 0, [])), (25, (50, 28, 162, 1, 0, 0, 0, [12])), (28, (26, 31, 0, 262, 0, 0, 0, [])), (31, (4, 32, 0, 0, 0, 0, 0, [])), (32, (0, 34, 0, 0, 0, 6, 0, [])), (34, (50, 37, 149, 2, 1, 0, 0, [12])), (37, (25, 40, 0, 47, 0, 0, 0, [])), (40, (4, 41, 0, 0, 0, 0, 0, [])), (41, (50, 44, 163, 1, 0, 0, 0, [12])), (44, (26, 47, 0, 262, 0, 0, 0, [])), (47, (4, 48, 0, 0, 0, 0, 0, [])), (48, (0, 49, 0, 0, 0, 1, 0, [])), (49, (50, 52, 149, 2, 1, 0, 0, [12])), (52, (25, 55, 0, 62, 0, 0, 0, [])), (55, (4, 56, 0, 0, 0, 0, 0, [])), (56, (50, 59, 165, 1, 0, 0, 0, [12])), (59, (26, 62, 0, 262, 0, 0, 0, [])), (62, (4, 63, 0, 0, 0, 0, 0, [])), (63, (0, 64, 0, 0, 0, 4, 0, [])), (64, (50, 67, 149, 2, 1, 0, 0, [12])), (67, (25, 70, 0, 94, 0, 0, 0, [])), (70, (4, 71, 0, 0, 0, 0, 0, [])), (71, (0, 72, 0, 0, 0, 1, 0, [])), (72, (50, 75, 160, 2, 1, 0, 0, [12])), (75, (25, 78, 0, 262, 0, 0, 0, [])), (78, (4, 79, 0, 0, 0, 0, 0, [])), (79, (31, 82, 12, 10, 20, 0, 0, [])), (82, (0, 84, 0, 0, 0, 71, 0, [])), (84, (4, 85, 0, 0, 0, 0, 0, [])), (85, (0, 86, 0, 0, 0, 0, 0, [])), (86, (0, 87, 0, 0, 0, 4, 0, [])), (87, (50, 90, 156, 3, 1, 0, 0, [12])), (90, (42, 91, 0, 0, 0, 0, 0, [])), (91, (26, 94, 0, 262, 0, 0, 0, [])), (94, (4, 95, 0, 0, 0, 0, 0, [])), (95, (0, 97, 0, 0, 0, 7, 0, [])), (97, (50, 100, 149, 2, 1, 0, 0, [12])), (100, (25, 103, 0, 110, 0, 0, 0, [])), (103, (4, 104, 0, 0, 0, 0, 0, [])), (104, (50, 107, 167, 1, 0, 0, 0, [12])), (107, (26, 110, 0, 262, 0, 0, 0, [])), (110, (4, 111, 0, 0, 0, 0, 0, [])), (111, (0, 113, 0, 0, 0, 10, 0, [])), (113, (50, 116, 149, 2, 1, 0, 0, [12])), (116, (25, 119, 0, 166, 0, 0, 0, [])), (119, (4, 120, 0, 0, 0, 0, 0, [])), (120, (0, 121, 0, 0, 0, 3, 0, [])), (121, (50, 124, 160, 2, 1, 0, 0, [12])), (124, (25, 127, 0, 262, 0, 0, 0, [])), (127, (4, 128, 0, 0, 0, 0, 0, [])), (128, (31, 131, 12, 10, 20, 0, 0, [])), (131, (0, 133, 0, 0, 0, 73, 0, [])), (133, (4, 134, 0, 0, 0, 0, 0, [])), (134, (0, 135, 0, 0, 0, 0, 0, [])), (135, (0, 137, 0, 0, 0, 40, 0, [])), (137, (50, 140, 156, 3, 1, 0, 0, [12])), (140, (42, 141, 0, 0, 0, 0, 0, [])), (141, (4, 142, 0, 0, 0, 0, 0, [])), (142, (31, 145, 12, 10, 20, 0, 0, [])), (145, (0, 147, 0, 0, 0, 74, 0, [])), (147, (4, 148, 0, 0, 0, 0, 0, [])), (148, (0, 150, 0, 0, 0, 11, 0, [])), (150, (4, 151, 0, 0, 0, 0, 0, [])), (151, (31, 154, 12, 10, 20, 0, 0, [])), (154, (0, 156, 0, 0, 0, 73, 0, [])), (156, (37, 157, 0, 0, 0, 0, 0, [])), (157, (0, 159, 0, 0, 0, 40, 0, [])), (159, (50, 162, 157, 4, 1, 0, 0, [12])), (162, (42, 163, 0, 0, 0, 0, 0, [])), (163, (26, 166, 0, 262, 0, 0, 0, [])), (166, (4, 167, 0, 0, 0, 0, 0, [])), (167, (0, 169, 0, 0, 0, 12, 0, [])), (169, (50, 172, 149, 2, 1, 0, 0, [12])), (172, (25, 175, 0, 215, 0, 0, 0, [])), (175, (4, 176, 0, 0, 0, 0, 0, [])), (176, (0, 177, 0, 0, 0, 4, 0, [])), (177, (50, 180, 160, 2, 1, 0, 0, [12])), (180, (25, 183, 0, 262, 0, 0, 0, [])), (183, (4, 184, 0, 0, 0, 0, 0, [])), (184, (31, 187, 12, 10, 20, 0, 0, [])), (187, (0, 189, 0, 0, 0, 75, 0, [])), (189, (4, 190, 0, 0, 0, 0, 0, [])), (190, (0, 191, 0, 0, 0, 1, 0, [])), (191, (0, 193, 0, 0, 0, 12, 0, [])), (193, (50, 196, 156, 3, 1, 0, 0, [12])), (196, (42, 197, 0, 0, 0, 0, 0, [])), (197, (4, 198, 0, 0, 0, 0, 0, [])), (198, (31, 201, 12, 10, 20, 0, 0, [])), (201, (0, 203, 0, 0, 0, 76, 0, [])), (203, (4, 204, 0, 0, 0, 0, 0, [])), (204, (0, 206, 0, 0, 0, 13, 0, [])), (206, (0, 207, 0, 0, 0, 0, 0, [])), (207, (0, 208, 0, 0, 0, 4, 0, [])), (208, (50, 211, 157, 4, 1, 0, 0, [12])), (211, (42, 212, 0, 0, 0, 0, 0, [])), (212, (26, 215, 0, 262, 0, 0, 0, [])), (215, (4, 216, 0, 0, 0, 0, 0, [])), (216, (0, 218, 0, 0, 0, 14, 0, [])), (218, (50, 221, 149, 2, 1, 0, 0, [12])), (221, (25, 224, 0, 257, 0, 0, 0, [])), (224, (4, 225, 0, 0, 0, 0, 0, [])), (225, (0, 226, 0, 0, 0, 5, 0, [])), (226, (50, 229, 160, 2, 1, 0, 0, [12])), (229, (25, 232, 0, 262, 0, 0, 0, [])), (232, (4, 233, 0, 0, 0, 0, 0, [])), (233, (31, 236, 12, 10, 20, 0, 0, [])), (236, (0, 238, 0, 0, 0, 77, 0, [])), (238, (4, 239, 0, 0, 0, 0, 0, [])), (239, (29, 242, 12, 13, 0, 0, 0, [])), (242, (42, 243, 0, 0, 0, 0, 0, [])), (243, (4, 244, 0, 0, 0, 0, 0, [])), (244, (0, 245, 0, 0, 0, 0, 0, [])), (245, (50, 248, 169, 2, 0, 0, 0, [12])), (248, (4, 249, 0, 0, 0, 0, 0, [])), (249, (0, 250, 0, 0, 0, 0, 0, [])), (250, (0, 251, 0, 0, 0, 0, 0, [])), (251, (50, 254, 168, 3, 0, 0, 0, [12])), (254, (26, 257, 0, 262, 0, 0, 0, [])), (257, (4, 258, 0, 0, 0, 0, 0, [])), (258, (0, 259, 0, 0, 0, 1, 0, [])), (259, (50, 262, 147, 2, 0, 0, 0, [12])), (262, (55, 263, 0, 0, 0, 0, 0, []))], [(16, []), (94, []), (166, []), (215, [])])
def tx_M_readStep : Tx := ([(0, (4, 1, 0, 0, 0, 0, 0, [])), (1, (0, 2, 0, 0, 0, 2, 0, [])), (2, (50, 5, 149, 2, 1, 0, 0, [12])), (5, (25, 8, 0, 12, 0, 0, 0, [])), (8, (0, 9, 0, 0, 0, 1, 0, [])), (9, (26, 12, 0, 25, 0, 0, 0, [])), (12, (4, 13, 0, 0, 0, 0, 0, [])), (13, (0, 14, 0, 0, 0, 3, 0, [])), (14, (50, 17, 149, 2, 1, 0, 0, [12])), (17, (25, 20, 0, 24, 0, 0, 0, [])), (20, (0, 21, 0, 0, 0, 2, 0, [])), (21, (26, 24, 0, 25, 0, 0, 0, [])), (24, (0, 25, 0, 0, 0, 3, 0, [])), (25, (5, 26, 1, 0, 0, 0, 0, [])), (26, (4, 27, 0, 0, 0, 0, 0, [])), (27, (22, 28, 0, 0, 0, 0, 0, [])), (28, (29, 31, 12, 7, 0, 0, 0, [])), (31, (0, 32, 0, 0, 0, 1, 0, [])), (32, (9, 33, 0, 0, 0, 0, 0, [])), (33, (32, 36, 12, 7, 0, 0, 0, [])), (36, (4, 37, 0, 0, 0, 0, 0, [])), (37, (0, 38, 0, 0, 0, 1, 0, [])), (38, (4, 39, 0, 0, 0, 0, 0, [])), (39, (31, 42, 12, 10, 20, 0, 0, [])), (42, (0, 44, 0, 0, 0, 70, 0, [])), (44, (37, 45, 0, 0, 0, 0, 0, [])), (45, (0, 46, 0, 0, 0, 1, 0, [])), (46, (9, 47, 1, 0, 0, 0, 0, [])), (47, (50, 50, 156, 3, 1, 0, 0, [12])), (50, (5, 51, 2, 0, 0, 0, 0, [])), (51, (4, 52, 0, 0, 0, 0, 0, [])), (52, (29, 55, 12, 8, 0, 0, 0, [])), (55, (25, 58, 1, 85, 0, 0, 0, [])), (58, (4, 59, 0, 0, 0, 0, 0, [])), (59, (31, 62, 12, 10, 20, 0, 0, [])), (62, (0, 64, 0, 0, 0, 96, 0, [])), (64, (2, 65, 2, 0, 0, 0, 0, [])), (65, (9, 66, 0, 0, 0, 0, 0, [])), (66, (37, 67, 0, 0, 0, 0, 0, [])), (67, (25, 70, 5, 85, 0, 0, 0, [])), (70, (4, 71, 0, 0, 0, 0, 0, [])), (71, (22, 72, 0, 0, 0, 0, 0, [])), (72, (29, 75, 12, 7, 0, 0, 0, [])), (75, (0, 76, 0, 0, 0, 1, 0, [])), (76, (9, 77, 1, 0, 0, 0, 0, [])), (77, (32, 80, 12, 7, 0, 0, 0, [])), (80, (4, 81, 0, 0, 0, 0, 0, [])), (81, (0, 82, 0, 0, 0, 3, 0, [])), (82, (50, 85, 147, 2, 0, 0, 0, [12])), (85, (4, 86, 0, 0, 0, 0, 0, [])), (86, (29, 89, 12, 8, 0, 0, 0, [])), (89, (25, 92, 1, 102, 0, 0, 0, [])), (92, (4, 93, 0, 0, 0, 0, 0, [])), (93, (31, 96, 12, 10, 20, 0, 0, [])), (96, (0, 98, 0, 0, 0, 96, 0, [])), (98, (2, 99, 2, 0, 0, 0, 0, [])), (99, (9, 100, 0, 0, 0, 0, 0, [])), (100, (2, 101, 1, 0, 0, 0, 0, [])), (101, (42, 102, 0, 0, 0, 0, 0, [])), (102, (55, 103, 0, 0, 0, 0, 0, []))], [(25, [1, 2]), (85, [])])
def tx_M_readBar : Tx := ([(0, (4, 1, 0, 0, 0, 0, 0, [])), (1, (31, 4, 12, 10, 20, 0, 0, [])), (4, (0, 6, 0, 0, 0, 85, 0, [])), (6, (37, 7, 0, 0, 0, 0, 0, [])), (7, (5, 8, 1, 0, 0, 0, 0, [])), (8, (2, 9, 1, 0, 0, 0, 0, [])), (9, (0, 11, 0, 0, 0, 8, 0, [])), (11, (24, 14, 1, 20, 0, 0, 0, [])), (14, (4, 15, 0, 0, 0, 0, 0, [])), (15, (0, 16, 0, 0, 0, 5, 0, [])), (16, (50, 19, 147, 2, 0, 0, 0, [12])), (19, (55, 20, 0, 0, 0, 0, 0, [])), (20, (4, 21, 0, 0, 0, 0, 0, [])), (21, (22, 22, 0, 0, 0, 0, 0, [])), (22, (29, 25, 12, 7, 0, 0, 0, [])), (25, (0, 26, 0, 0, 0, 1, 0, [])), (26, (9, 27, 0, 0, 0, 0, 0, [])), (27, (32, 30, 12, 7, 0, 0, 0, [])), (30, (4, 31, 0, 0, 0, 0, 0, [])), (31, (0, 32, 0, 0, 0, 1, 0, [])), (32, (0, 34, 0, 0, 0, 12, 0, [])), (34, (50, 37, 156, 3, 1, 0, 0, [12])), (37, (5, 38, 2, 0, 0, 0, 0, [])), (38, (4, 39, 0, 0, 0, 0, 0, [])), (39, (0, 40, 0, 0, 0, 1, 0, [])), (40, (0, 42, 0, 0, 0, 12, 0, [])), (42, (50, 45, 156, 3, 1, 0, 0, [12])), (45, (5, 46, 3, 0, 0, 0, 0, [])), (46, (4, 47, 0, 0, 0, 0, 0, [])), (47, (29, 50, 12, 8, 0, 0, 0, [])), (50, (25, 53, 1, 79, 0, 0, 0, [])), (53, (4, 54, 0, 0, 0, 0, 0, [])), (54, (0, 56, 0, 0, 0, 70, 0, [])), (56, (2, 57, 2, 0, 0, 0, 0, [])), (57, (2, 58, 3, 0, 0, 0, 0, [])), (58, (50, 61, 164, 4, 1, 0, 0, [12])), (61, (25, 64, 0, 79, 0, 0, 0, [])), (64, (4, 65, 0, 0, 0, 0, 0, [])), (65, (22, 66, 0, 0, 0, 0, 0, [])), (66, (29, 69, 12, 7, 0, 0, 0, [])), (69, (0, 70, 0, 0, 0, 1, 0, [])), (70, (9, 71, 1, 0, 0, 0, 0, [])), (71, (32, 74, 12, 7, 0, 0, 0, [])), (74, (4, 75, 0, 0, 0, 0, 0, [])), (75, (0, 76, 0, 0, 0, 3, 0, [])), (76, (50, 79, 147, 2, 0, 0, 0, [12])), (79, (4, 80, 0, 0, 0, 0, 0, [])), (80, (29, 83, 12, 8, 0, 0, 0, [])), (83, (25, 86, 1, 112, 0, 0, 0, [])), (86, (4, 87, 0, 0, 0, 0, 0, [])), (87, (31, 90, 12, 10, 20, 0, 0, [])), (90, (0, 92, 0, 0, 0, 86, 0, [])), (92, (2, 93, 1, 0, 0, 0, 0, [])), (93, (9, 94, 0, 0, 0, 0, 0, [])), (94, (0, 96, 0, 0, 0, 16, 0, [])), (96, (2, 97, 2, 0, 0, 0, 0, [])), (97, (9, 98, 2, 0, 0, 0, 0, [])), (98, (2, 99, 3, 0, 0, 0, 0, [])), (99, (9, 100, 0, 0, 0, 0, 0, [])), (100, (42, 101, 0, 0, 0, 0, 0, [])), (101, (4, 102, 0, 0, 0, 0, 0, [])), (102, (31, 105, 12, 10, 20, 0, 0, [])), (105, (0, 107, 0, 0, 0, 85, 0, [])), (107, (23, 108, 0, 0, 0, 0, 0, [])), (108, (37, 109, 0, 0, 0, 0, 0, [])), (109, (0, 110, 0, 0, 0, 1, 0, [])), (110, (9, 111, 0, 0, 0, 0, 0, [])), (111, (42, 112, 0, 0, 0, 0, 0, [])), (112, (55, 113, 0, 0, 0, 0, 0, []))], [(79, [])])
def tx_M_isBarred : Tx := ([(0, (0, 1, 0, 0, 0, 0, 0, [])), (1, (5, 3, 4, 0, 0, 0, 0, [])), (3, (0, 4, 0, 0, 0, 0, 0, [])), (4, (5, 6, 5, 0, 0, 0, 0, [])), (6, (2, 8, 5, 0, 0, 0, 0, [])), (8, (4, 9, 0, 0, 0, 0, 0, [])), (9, (31, 12, 12, 10, 20, 0, 0, [])), (12, (2, 13, 1, 0, 0, 0, 0, [])), (13, (0, 15, 0, 0, 0, 15, 0, [])), (15, (9, 16, 0, 0, 0, 0, 0, [])), (16, (37, 17, 0, 0, 0, 0, 0, [])), (17, (24, 20, 3, 59, 0, 0, 0, [])), (20, (2, 22, 4, 0, 0, 0, 0, [])), (22, (25, 25, 1, 46, 0, 0, 0, [])), (25, (4, 26, 0, 0, 0, 0, 0, [])), (26, (31, 29, 12, 10, 20, 0, 0, [])), (29, (2, 30, 1, 0, 0, 0, 0, [])), (30, (0, 32, 0, 0, 0, 16, 0, [])), (32, (9, 33, 0, 0, 0, 0, 0, [])), (33, (2, 35, 5, 0, 0, 0, 0, [])), (35, (9, 36, 0, 0, 0, 0, 0, [])), (36, (37, 37, 0, 0, 0, 0, 0, [])), (37, (0, 39, 0, 0, 0, 16, 0, [])), (39, (2, 40, 2, 0, 0, 0, 0, [])), (40, (9, 41, 2, 0, 0, 0, 0, [])), (41, (2, 42, 3, 0, 0, 0, 0, [])), (42, (9, 43, 0, 0, 0, 0, 0, [])), (43, (24, 46, 1, 50, 0, 0, 0, [])), (46, (0, 47, 0, 0, 0, 1, 0, [])), (47, (26, 50, 0, 51, 0, 0, 0, [])), (50, (0, 51, 0, 0, 0, 0, 0, [])), (51, (5, 53, 4, 0, 0, 0, 0, [])), (53, (8, 56, 5, 0, 0, 1, 0, [])), (56, (26, 59, 0, 6, 0, 0, 0, [])), (59, (2, 61, 4, 0, 0, 0, 0, [])), (61, (53, 62, 1, 0, 0, 0, 0, []))], [(6, [])])
def tx_M_readStrides : Tx := ([(0, (4, 1, 0, 0, 0, 0, 0, [])), (1, (0, 2, 0, 0, 0, 0, 0, [])), (2, (50, 5, 160, 2, 1, 0, 0, [12])), (5, (25, 8, 1, 9, 0, 0, 0, [])), (8, (55, 9, 0, 0, 0, 0, 0, [])), (9, (4, 10, 0, 0, 0, 0, 0, [])), (10, (50, 13, 166, 1, 0, 0, 0, [12])), (13, (4, 14, 0, 0, 0, 0, 0, [])), (14, (29, 17, 12, 8, 0, 0, 0, [])), (17, (25, 20, 1, 40, 0, 0, 0, [])), (20, (4, 21, 0, 0, 0, 0, 0, [])), (21, (31, 24, 12, 4, 20, 0, 0, [])), (24, (4, 25, 0, 0, 0, 0, 0, [])), (25, (29, 28, 12, 7, 0, 0, 0, [])), (28, (37, 29, 0, 0, 0, 0, 0, [])), (29, (0, 30, 0, 0, 0, 2, 0, [])), (30, (24, 33, 1, 40, 0, 0, 0, [])), (33, (4, 34, 0, 0, 0, 0, 0, [])), (34, (50, 37, 166, 1, 0, 0, 0, [12])), (37, (26, 40, 0, 13, 0, 0, 0, [])), (40, (55, 41, 0, 0, 0, 0, 0, []))], [(13, [])])
def tx_M_readStride : Tx := ([(0, (4, 1, 0, 0, 0, 0, 0, [])), (1, (31, 4, 12, 10, 20, 0, 0, [])), (4, (0, 6, 0, 0, 0, 78, 0, [])), (6, (37, 7, 0, 0, 0, 0, 0, [])), (7, (5, 8, 1, 0, 0, 0, 0, [])), (8, (4, 9, 0, 0, 0, 0, 0, [])), (9, (0, 10, 0, 0, 0, 1, 0, [])), (10, (0, 12, 0, 0, 0, 12, 0, [])), (12, (50, 15, 156, 3, 1, 0, 0, [12])), (15, (5, 16, 2, 0, 0, 0, 0, [])), (16, (4, 17, 0, 0, 0, 0, 0, [])), (17, (22, 18, 0, 0, 0, 0, 0, [])), (18, (29, 21, 12, 7, 0, 0, 0, [])), (21, (4, 22, 0, 0, 0, 0, 0, [])), (22, (29, 25, 12, 8, 0, 0, 0, [])), (25, (25, 28, 5, 32, 0, 0, 0, [])), (28, (0, 29, 0, 0, 0, 0, 0, [])), (29, (26, 32, 0, 33, 0, 0, 0, [])), (32, (0, 33, 0, 0, 0, 1, 0, [])), (33, (9, 34, 1, 0, 0, 0, 0, [])), (34, (32, 37, 12, 7, 0, 0, 0, [])), (37, (0, 38, 0, 0, 0, 0, 0, [])), (38, (5, 39, 3, 0, 0, 0, 0, [])), (39, (2, 40, 3, 0, 0, 0, 0, [])), (40, (2, 41, 1, 0, 0, 0, 0, [])), (41, (24, 44, 3, 75, 0, 0, 0, [])), (44, (4, 45, 0, 0, 0, 0, 0, [])), (45, (29, 48, 12, 8, 0, 0, 0, [])), (48, (25, 51, 1, 75, 0, 0, 0, [])), (51, (4, 52, 0, 0, 0, 0, 0, [])), (52, (31, 55, 12, 10, 20, 0, 0, [])), (55, (0, 57, 0, 0, 0, 79, 0, [])), (57, (2, 58, 3, 0, 0, 0, 0, [])), (58, (9, 59, 0, 0, 0, 0, 0, [])), (59, (37, 60, 0, 0, 0, 0, 0, [])), (60, (2, 61, 2, 0, 0, 0, 0, [])), (61, (24, 64, 1, 69, 0, 0, 0, [])), (64, (4, 65, 0, 0, 0, 0, 0, [])), (65, (0, 66, 0, 0, 0, 3, 0, [])), (66, (50, 69, 147, 2, 0, 0, 0, [12])), (69, (8, 72, 3, 0, 0, 1, 0, [])), (72, (26, 75, 0, 39, 0, 0, 0, [])), (75, (2, 76, 1, 0, 0, 0, 0, [])), (76, (0, 78, 0, 0, 0, 6, 0, [])), (78, (24, 81, 1, 86, 0, 0, 0, [])), (81, (4, 82, 0, 0, 0, 0, 0, [])), (82, (0, 83, 0, 0, 0, 5, 0, [])), (83, (50, 86, 147, 2, 0, 0, 0, [12])), (86, (4, 87, 0, 0, 0, 0, 0, [])), (87, (29, 90, 12, 8, 0, 0, 0, [])), (90, (25, 93, 1, 124, 0, 0, 0, [])), (93, (4, 94, 0, 0, 0, 0, 0, [])), (94, (22, 95, 0, 0, 0, 0, 0, [])), (95, (29, 98, 12, 7, 0, 0, 0, [])), (98, (0, 99, 0, 0, 0, 1, 0, [])), (99, (9, 100, 0, 0, 0, 0, 0, [])), (100, (32, 103, 12, 7, 0, 0, 0, [])), (103, (4, 104, 0, 0, 0, 0, 0, [])), (104, (31, 107, 12, 10, 20, 0, 0, [])), (107, (0, 109, 0, 0, 0, 79, 0, [])), (109, (2, 110, 1, 0, 0, 0, 0, [])), (110, (9, 111, 0, 0, 0, 0, 0, [])), (111, (2, 112, 2, 0, 0, 0, 0, [])), (112, (42, 113, 0, 0, 0, 0, 0, [])), (113, (4, 114, 0, 0, 0, 0, 0, [])), (114, (31, 117, 12, 10, 20, 0, 0, [])), (117, (0, 119, 0, 0, 0, 78, 0, [])), (119, (23, 120, 0, 0, 0, 0, 0, [])), (120, (37, 121, 0, 0, 0, 0, 0, [])), (121, (0, 122, 0, 0, 0, 1, 0, [])), (122, (9, 123, 0, 0, 0, 0, 0, [])), (123, (42, 124, 0, 0, 0, 0, 0, [])), (124, (55, 125, 0, 0, 0, 0, 0, []))], [(39, []), (86, [3])])
def tx_M_readFoot : Tx := ([(0, (4, 1, 0, 0, 0, 0, 0, [])), (1, (0, 2, 0, 0, 0, 2, 0, [])), (2, (50, 5, 160, 2, 1, 0, 0, [12])), (5, (25, 8, 1, 9, 0, 0, 0, [])), (8, (55, 9, 0, 0, 0, 0, 0, [])), (9, (4, 10, 0, 0, 0, 0, 0, [])), (10, (0, 12, 0, 0, 0, 8, 0, [])), (12, (50, 15, 149, 2, 1, 0, 0, [12])), (15, (25, 18, 1, 33, 0, 0, 0, [])), (18, (4, 19, 0, 0, 0, 0, 0, [])), (19, (0, 21, 0, 0, 0, 9, 0, [])), (21, (50, 24, 149, 2, 1, 0, 0, [12])), (24, (25, 27, 1, 33, 0, 0, 0, [])), (27, (4, 28, 0, 0, 0, 0, 0, [])), (28, (0, 29, 0, 0, 0, 1, 0, [])), (29, (50, 32, 147, 2, 0, 0, 0, [12])), (32, (55, 33, 0, 0, 0, 0, 0, [])), (33, (4, 34, 0, 0, 0, 0, 0, [])), (34, (31, 37, 12, 10, 20, 0, 0, [])), (37, (0, 39, 0, 0, 0, 72, 0, [])), (39, (4, 40, 0, 0, 0, 0, 0, [])), (40, (0, 42, 0, 0, 0, 8, 0, [])), (42, (50, 45, 149, 2, 1, 0, 0, [12])), (45, (25, 48, 0, 52, 0, 0, 0, [])), (48, (0, 49, 0, 0, 0, 0, 0, [])), (49, (26, 52, 0, 53, 0, 0, 0, [])), (52, (0, 53, 0, 0, 0, 1, 0, [])), (53, (42, 54, 0, 0, 0, 0, 0, [])), (54, (4, 55, 0, 0, 0, 0, 0, [])), (55, (22, 56, 0, 0, 0, 0, 0, [])), (56, (29, 59, 12, 7, 0, 0, 0, [])), (59, (0, 60, 0, 0, 0, 1, 0, [])), (60, (9, 61, 0, 0, 0, 0, 0, [])), (61, (32, 64, 12, 7, 0, 0, 0, [])), (64, (55, 65, 0, 0, 0, 0, 0, []))], [(33, []), (53, [])])
def tx_M_emit : Tx := ([(0, (4, 1, 0, 0, 0, 0, 0, [])), (1, (31, 4, 12, 11, 20, 0, 0, [])), (4, (0, 7, 0, 0, 0, 1100, 0, [])), (7, (4, 8, 0, 0, 0, 0, 0, [])), (8, (29, 11, 12, 13, 0, 0, 0, [])), (11, (9, 12, 0, 0, 0, 0, 0, [])), (12, (2, 13, 1, 0, 0, 0, 0, [])), (13, (42, 14, 0, 0, 0, 0, 0, [])), (14, (4, 15, 0, 0, 0, 0, 0, [])), (15, (31, 18, 12, 12, 20, 0, 0, [])), (18, (0, 21, 0, 0, 0, 1100, 0, [])), (21, (4, 22, 0, 0, 0, 0, 0, [])), (22, (29, 25, 12, 13, 0, 0, 0, [])), (25, (9, 26, 0, 0, 0, 0, 0, [])), (26, (2, 27, 2, 0, 0, 0, 0, [])), (27, (42, 28, 0, 0, 0, 0, 0, [])), (28, (4, 29, 0, 0, 0, 0, 0, [])), (29, (22, 30, 0, 0, 0, 0, 0, [])), (30, (29, 33, 12, 13, 0, 0, 0, [])), (33, (0, 34, 0, 0, 0, 1, 0, [])), (34, (9, 35, 0, 0, 0, 0, 0, [])), (35, (32, 38, 12, 13, 0, 0, 0, [])), (38, (55, 39, 0, 0, 0, 0, 0, []))], [])
def tx_M_all : Tx := ([(0, (4, 1, 0, 0, 0, 0, 0, [])), (1, (2, 2, 1, 0, 0, 0, 0, [])), (2, (50, 5, 170, 2, 0, 0, 0, [12])), (5, (4, 6, 0, 0, 0, 0, 0, [])), (6, (0, 8, 0, 0, 0, 16, 0, [])), (8, (50, 11, 149, 2, 1, 0, 0, [12])), (11, (25, 14, 1, 23, 0, 0, 0, [])), (14, (4, 15, 0, 0, 0, 0, 0, [])), (15, (0, 17, 0, 0, 0, 17, 0, [])), (17, (50, 20, 149, 2, 1, 0, 0, [12])), (20, (25, 23, 0, 64, 0, 0, 0, [])), (23, (4, 24, 0, 0, 0, 0, 0, [])), (24, (0, 26, 0, 0, 0, 16, 0, [])), (26, (50, 29, 149, 2, 1, 0, 0, [12])), (29, (5, 30, 2, 0, 0, 0, 0, [])), (30, (4, 31, 0, 0, 0, 0, 0, [])), (31, (22, 32, 0, 0, 0, 0, 0, [])), (32, (29, 35, 12, 7, 0, 0, 0, [])), (35, (0, 36, 0, 0, 0, 1, 0, [])), (36, (9, 37, 0, 0, 0, 0, 0, [])), (37, (32, 40, 12, 7, 0, 0, 0, [])), (40, (4, 41, 0, 0, 0, 0, 0, [])), (41, (2, 42, 1, 0, 0, 0, 0, [])), (42, (50, 45, 170, 2, 0, 0, 0, [12])), (45, (4, 46, 0, 0, 0, 0, 0, [])), (46, (2, 47, 2, 0, 0, 0, 0, [])), (47, (25, 50, 0, 55, 0, 0, 0, [])), (50, (0, 52, 0, 0, 0, 9, 0, [])), (52, (26, 55, 0, 57, 0, 0, 0, [])), (55, (0, 57, 0, 0, 0, 10, 0, [])), (57, (0, 58, 0, 0, 0, 0, 0, [])), (58, (50, 61, 168, 3, 0, 0, 0, [12])), (61, (26, 64, 0, 5, 0, 0, 0, [])), (64, (55, 65, 0, 0, 0, 0, 0, []))], [(5, [2]), (23, [2])])
def tx_M_test : Tx := ([(0, (4, 1, 0, 0, 0, 0, 0, [])), (1, (2, 2, 1, 0, 0, 0, 0, [])), (2, (50, 5, 171, 2, 0, 0, 0, [12])), (5, (4, 6, 0, 0, 0, 0, 0, [])), (6, (0, 8, 0, 0, 0, 60, 0, [])), (8, (50, 11, 148, 2, 1, 0, 0, [12])), (11, (5, 12, 2, 0, 0, 0, 0, [])), (12, (4, 13, 0, 0, 0, 0, 0, [])), (13, (0, 15, 0, 0, 0, 60, 0, [])), (15, (50, 18, 151, 2, 1, 0, 0, [12])), (18, (25, 21, 1, 30, 0, 0, 0, [])), (21, (4, 22, 0, 0, 0, 0, 0, [])), (22, (0, 24, 0, 0, 0, 61, 0, [])), (24, (50, 27, 151, 2, 1, 0, 0, [12])), (27, (25, 30, 0, 51, 0, 0, 0, [])), (30, (4, 31, 0, 0, 0, 0, 0, [])), (31, (2, 32, 1, 0, 0, 0, 0, [])), (32, (50, 35, 171, 2, 0, 0, 0, [12])), (35, (4, 36, 0, 0, 0, 0, 0, [])), (36, (2, 37, 2, 0, 0, 0, 0, [])), (37, (25, 40, 0, 45, 0, 0, 0, [])), (40, (0, 42, 0, 0, 0, 7, 0, [])), (42, (26, 45, 0, 47, 0, 0, 0, [])), (45, (0, 47, 0, 0, 0, 8, 0, [])), (47, (0, 48, 0, 0, 0, 0, 0, [])), (48, (50, 51, 168, 3, 0, 0, 0, [12])), (51, (55, 52, 0, 0, 0, 0, 0, []))], [(30, [])])
def tx_M_sums : Tx := ([(0, (4, 1, 0, 0, 0, 0, 0, [])), (1, (2, 2, 1, 0, 0, 0, 0, [])), (2, (50, 5, 172, 2, 0, 0, 0, [12])), (5, (4, 6, 0, 0, 0, 0, 0, [])), (6, (0, 8, 0, 0, 0, 43, 0, [])), (8, (50, 11, 148, 2, 1, 0, 0, [12])), (11, (25, 14, 1, 23, 0, 0, 0, [])), (14, (4, 15, 0, 0, 0, 0, 0, [])), (15, (0, 17, 0, 0, 0, 45, 0, [])), (17, (50, 20, 148, 2, 1, 0, 0, [12])), (20, (25, 23, 0, 62, 0, 0, 0, [])), (23, (4, 24, 0, 0, 0, 0, 0, [])), (24, (0, 26, 0, 0, 0, 43, 0, [])), (26, (50, 29, 148, 2, 1, 0, 0, [12])), (29, (5, 30, 2, 0, 0, 0, 0, [])), (30, (4, 31, 0, 0, 0, 0, 0, [])), (31, (22, 32, 0, 0, 0, 0, 0, [])), (32, (29, 35, 12, 7, 0, 0, 0, [])), (35, (0, 36, 0, 0, 0, 1, 0, [])), (36, (9, 37, 0, 0, 0, 0, 0, [])), (37, (32, 40, 12, 7, 0, 0, 0, [])), (40, (4, 41, 0, 0, 0, 0, 0, [])), (41, (2, 42, 1, 0, 0, 0, 0, [])), (42, (50, 45, 172, 2, 0, 0, 0, [12])), (45, (4, 46, 0, 0, 0, 0, 0, [])), (46, (2, 47, 2, 0, 0, 0, 0, [])), (47, (25, 50, 0, 54, 0, 0, 0, [])), (50, (0, 51, 0, 0, 0, 4, 0, [])), (51, (26, 54, 0, 55, 0, 0, 0, [])), (54, (0, 55, 0, 0, 0, 5, 0, [])), (55, (0, 56, 0, 0, 0, 0, 0, [])), (56, (50, 59, 168, 3, 0, 0, 0, [12])), (59, (26, 62, 0, 5, 0, 0, 0, [])), (62, (55, 63, 0, 0, 0, 0, 0, []))], [(5, [2]), (23, [2])])
def tx_M_products : Tx := ([(0, (4, 1, 0, 0, 0, 0, 0, [])), (1, (2, 2, 1, 0, 0, 0, 0, [])), (2, (50, 5, 173, 2, 0, 0, 0, [12])), (5, (4, 6, 0, 0, 0, 0, 0, [])), (6, (0, 8, 0, 0, 0, 42, 0, [])), (8, (50, 11, 151, 2, 1, 0, 0, [12])), (11, (25, 14, 0, 29, 0, 0, 0, [])), (14, (4, 15, 0, 0, 0, 0, 0, [])), (15, (2, 16, 1, 0, 0, 0, 0, [])), (16, (50, 19, 173, 2, 0, 0, 0, [12])), (19, (4, 20, 0, 0, 0, 0, 0, [])), (20, (0, 22, 0, 0, 0, 6, 0, [])), (22, (0, 23, 0, 0, 0, 0, 0, [])), (23, (50, 26, 168, 3, 0, 0, 0, [12])), (26, (26, 29, 0, 5, 0, 0, 0, [])), (29, (55, 30, 0, 0, 0, 0, 0, []))], [(5, [])])
def tx_M_takePart : Tx := ([(0, (4, 1, 0, 0, 0, 0, 0, [])), (1, (29, 4, 12, 8, 0, 0, 0, [])), (4, (25, 7, 5, 8, 0, 0, 0, [])), (7, (55, 8, 0, 0, 0, 0, 0, [])), (8, (4, 9, 0, 0, 0, 0, 0, [])), (9, (31, 12, 12, 4, 20, 0, 0, [])), (12, (4, 13, 0, 0, 0, 0, 0, [])), (13, (29, 16, 12, 7, 0, 0, 0, [])), (16, (37, 17, 0, 0, 0, 0, 0, [])), (17, (0, 18, 0, 0, 0, 2, 0, [])), (18, (24, 21, 1, 25, 0, 0, 0, [])), (21, (0, 22, 0, 0, 0, 1, 0, [])), (22, (26, 25, 0, 26, 0, 0, 0, [])), (25, (0, 26, 0, 0, 0, 0, 0, [])), (26, (5, 27, 2, 0, 0, 0, 0, [])), (27, (0, 28, 0, 0, 0, -1, 0, [])), (28, (5, 29, 3, 0, 0, 0, 0, [])), (29, (0, 30, 0, 0, 0, 0, 0, [])), (30, (5, 32, 4, 0, 0, 0, 0, [])), (32, (2, 34, 4, 0, 0, 0, 0, [])), (34, (0, 35, 0, 0, 0, 4, 0, [])), (35, (24, 38, 3, 63, 0, 0, 0, [])), (38, (4, 39, 0, 0, 0, 0, 0, [])), (39, (0, 41, 0, 0, 0, 18, 0, [])), (41, (2, 43, 4, 0, 0, 0, 0, [])), (43, (9, 44, 0, 0, 0, 0, 0, [])), (44, (50, 47, 149, 2, 1, 0, 0, [12])), (47, (25, 50, 0, 55, 0, 0, 0, [])), (50, (2, 52, 4, 0, 0, 0, 0, [])), (52, (26, 55, 0, 56, 0, 0, 0, [])), (55, (2, 56, 3, 0, 0, 0, 0, [])), (56, (5, 57, 3, 0, 0, 0, 0, [])), (57, (8, 60, 4, 0, 0, 1, 0, [])), (60, (26, 63, 0, 32, 0, 0, 0, [])), (63, (2, 64, 3, 0, 0, 0, 0, [])), (64, (25, 67, 3, 97, 0, 0, 0, [])), (67, (2, 68, 2, 0, 0, 0, 0, [])), (68, (25, 71, 1, 97, 0, 0, 0, [])), (71, (4, 72, 0, 0, 0, 0, 0, [])), (72, (0, 74, 0, 0, 0, 40, 0, [])), (74, (50, 77, 148, 2, 1, 0, 0, [12])), (77, (25, 80, 1, 97, 0, 0, 0, [])), (80, (4, 81, 0, 0, 0, 0, 0, [])), (81, (0, 83, 0, 0, 0, 15, 0, [])), (83, (50, 86, 149, 2, 1, 0, 0, [12])), (86, (25, 89, 1, 97, 0, 0, 0, [])), (89, (4, 90, 0, 0, 0, 0, 0, [])), (90, (0, 91, 0, 0, 0, 1, 0, [])), (91, (50, 94, 147, 2, 0, 0, 0, [12])), (94, (26, 97, 0, 107, 0, 0, 0, [])), (97, (2, 98, 1, 0, 0, 0, 0, [])), (98, (0, 99, 0, 0, 0, 5, 0, [])), (99, (24, 102, 1, 107, 0, 0, 0, [])), (102, (4, 103, 0, 0, 0, 0, 0, [])), (103, (0, 104, 0, 0, 0, 5, 0, [])), (104, (50, 107, 147, 2, 0, 0, 0, [12])), (107, (4, 108, 0, 0, 0, 0, 0, [])), (108, (29, 111, 12, 8, 0, 0, 0, [])), (111, (25, 114, 5, 115, 0, 0, 0, [])), (114, (55, 115, 0, 0, 0, 0, 0, [])), (115, (4, 116, 0, 0, 0, 0, 0, [])), (116, (0, 118, 0, 0, 0, 15, 0, [])), (118, (50, 121, 152, 2, 1, 0, 0, [12])), (121, (25, 124, 0, 140, 0, 0, 0, [])), (124, (4, 125, 0, 0, 0, 0, 0, [])), (125, (2, 126, 1, 0, 0, 0, 0, [])), (126, (0, 127, 0, 0, 0, 1, 0, [])), (127, (9, 128, 0, 0, 0, 0, 0, [])), (128, (50, 131, 173, 2, 0, 0, 0, [12])), (131, (4, 132, 0, 0, 0, 0, 0, [])), (132, (0, 133, 0, 0, 0, 3, 0, [])), (133, (0, 134, 0, 0, 0, 0, 0, [])), (134, (50, 137, 168, 3, 0, 0, 0, [12])), (137, (26, 140, 0, 206, 0, 0, 0, [])), (140, (4, 141, 0, 0, 0, 0, 0, [])), (141, (0, 143, 0, 0, 0, 40, 0, [])), (143, (50, 146, 151, 2, 1, 0, 0, [12])), (146, (25, 149, 0, 165, 0, 0, 0, [])), (149, (4, 150, 0, 0, 0, 0, 0, [])), (150, (2, 151, 1, 0, 0, 0, 0, [])), (151, (0, 152, 0, 0, 0, 1, 0, [])), (152, (9, 153, 0, 0, 0, 0, 0, [])), (153, (50, 156, 169, 2, 0, 0, 0, [12])), (156, (4, 157, 0, 0, 0, 0, 0, [])), (157, (0, 159, 0, 0, 0, 41, 0, [])), (159, (50, 162, 150, 2, 0, 0, 0, [12])), (162, (26, 165, 0, 206, 0, 0, 0, [])), (165, (4, 166, 0, 0, 0, 0, 0, [])), (166, (2, 167, 2, 0, 0, 0, 0, [])), (167, (25, 170, 0, 174, 0, 0, 0, [])), (170, (0, 171, 0, 0, 0, 1, 0, [])), (171, (26, 174, 0, 175, 0, 0, 0, [])), (174, (0, 175, 0, 0, 0, 2, 0, [])), (175, (2, 176, 2, 0, 0, 0, 0, [])), (176, (25, 179, 0, 192, 0, 0, 0, [])), (179, (4, 180, 0, 0, 0, 0, 0, [])), (180, (31, 183, 12, 6, 21, 0, 0, [])), (183, (4, 184, 0, 0, 0, 0, 0, [])), (184, (29, 187, 12, 7, 0, 0, 0, [])), (187, (38, 188, 0, 0, 0, 0, 0, [])), (188, (19, 189, 0, 0, 0, 0, 0, [])), (189, (26, 192, 0, 193, 0, 0, 0, [])), (192, (2, 193, 3, 0, 0, 0, 0, [])), (193, (50, 196, 168, 3, 0, 0, 0, [12])), (196, (4, 197, 0, 0, 0, 0, 0, [])), (197, (22, 198, 0, 0, 0, 0, 0, [])), (198, (29, 201, 12, 7, 0, 0, 0, [])), (201, (0, 202, 0, 0, 0, 1, 0, [])), (202, (9, 203, 0, 0, 0, 0, 0, [])), (203, (32, 206, 12, 7, 0, 0, 0, [])), (206, (55, 207, 0, 0, 0, 0, 0, []))], [(32, []), (63, [4]), (107, [4]), (175, [1, 4]), (193, [1, 2, 3, 4])])
def tx_M_worthAt : Tx := ([(0, (0, 1, 0, 0, 0, 0, 0, [])), (1, (5, 2, 2, 0, 0, 0, 0, [])), (2, (2, 3, 1, 0, 0, 0, 0, [])), (3, (5, 4, 3, 0, 0, 0, 0, [])), (4, (4, 5, 0, 0, 0, 0, 0, [])), (5, (31, 8, 12, 11, 20, 0, 0, [])), (8, (2, 9, 3, 0, 0, 0, 0, [])), (9, (37, 10, 0, 0, 0, 0, 0, [])), (10, (25, 13, 0, 140, 0, 0, 0, [])), (13, (4, 14, 0, 0, 0, 0, 0, [])), (14, (31, 17, 12, 11, 20, 0, 0, [])), (17, (2, 18, 3, 0, 0, 0, 0, [])), (18, (37, 19, 0, 0, 0, 0, 0, [])), (19, (5, 21, 4, 0, 0, 0, 0, [])), (21, (2, 23, 4, 0, 0, 0, 0, [])), (23, (0, 24, 0, 0, 0, 1, 0, [])), (24, (24, 27, 0, 33, 0, 0, 0, [])), (27, (2, 29, 4, 0, 0, 0, 0, [])), (29, (0, 30, 0, 0, 0, 2, 0, [])), (30, (24, 33, 1, 71, 0, 0, 0, [])), (33, (4, 34, 0, 0, 0, 0, 0, [])), (34, (31, 37, 12, 16, 20, 0, 0, [])), (37, (2, 38, 2, 0, 0, 0, 0, [])), (38, (2, 40, 4, 0, 0, 0, 0, [])), (40, (0, 41, 0, 0, 0, 1, 0, [])), (41, (24, 44, 1, 53, 0, 0, 0, [])), (44, (4, 45, 0, 0, 0, 0, 0, [])), (45, (31, 48, 12, 12, 20, 0, 0, [])), (48, (2, 49, 3, 0, 0, 0, 0, [])), (49, (37, 50, 0, 0, 0, 0, 0, [])), (50, (26, 53, 0, 64, 0, 0, 0, [])), (53, (4, 54, 0, 0, 0, 0, 0, [])), (54, (31, 57, 12, 15, 20, 0, 0, [])), (57, (4, 58, 0, 0, 0, 0, 0, [])), (58, (31, 61, 12, 12, 20, 0, 0, [])), (61, (2, 62, 3, 0, 0, 0, 0, [])), (62, (37, 63, 0, 0, 0, 0, 0, [])), (63, (37, 64, 0, 0, 0, 0, 0, [])), (64, (42, 65, 0, 0, 0, 0, 0, [])), (65, (8, 68, 2, 0, 0, 1, 0, [])), (68, (26, 71, 0, 134, 0, 0, 0, [])), (71, (2, 73, 4, 0, 0, 0, 0, [])), (73, (0, 74, 0, 0, 0, 3, 0, [])), (74, (24, 77, 1, 104, 0, 0, 0, [])), (77, (4, 78, 0, 0, 0, 0, 0, [])), (78, (31, 81, 12, 16, 20, 0, 0, [])), (81, (2, 82, 2, 0, 0, 0, 0, [])), (82, (0, 83, 0, 0, 0, 1, 0, [])), (83, (9, 84, 1, 0, 0, 0, 0, [])), (84, (4, 85, 0, 0, 0, 0, 0, [])), (85, (31, 88, 12, 16, 20, 0, 0, [])), (88, (2, 89, 2, 0, 0, 0, 0, [])), (89, (0, 90, 0, 0, 0, 1, 0, [])), (90, (9, 91, 1, 0, 0, 0, 0, [])), (91, (37, 92, 0, 0, 0, 0, 0, [])), (92, (25, 95, 1, 99, 0, 0, 0, [])), (95, (0, 96, 0, 0, 0, 1, 0, [])), (96, (26, 99, 0, 100, 0, 0, 0, [])), (99, (0, 100, 0, 0, 0, 0, 0, [])), (100, (42, 101, 0, 0, 0, 0, 0, [])), (101, (26, 104, 0, 134, 0, 0, 0, [])), (104, (8, 107, 2, 0, 0, -1, 0, [])), (107, (4, 108, 0, 0, 0, 0, 0, [])), (108, (31, 111, 12, 16, 20, 0, 0, [])), (111, (2, 112, 2, 0, 0, 0, 0, [])), (112, (0, 113, 0, 0, 0, 1, 0, [])), (113, (9, 114, 1, 0, 0, 0, 0, [])), (114, (2, 116, 4, 0, 0, 0, 0, [])), (116, (4, 117, 0, 0, 0, 0, 0, [])), (117, (31, 120, 12, 16, 20, 0, 0, [])), (120, (2, 121, 2, 0, 0, 0, 0, [])), (121, (0, 122, 0, 0, 0, 1, 0, [])), (122, (9, 123, 1, 0, 0, 0, 0, [])), (123, (37, 124, 0, 0, 0, 0, 0, [])), (124, (4, 125, 0, 0, 0, 0, 0, [])), (125, (31, 128, 12, 16, 20, 0, 0, [])), (128, (2, 129, 2, 0, 0, 0, 0, [])), (129, (37, 130, 0, 0, 0, 0, 0, [])), (130, (50, 133, 175, 3, 1, 0, 0, [])), (133, (42, 134, 0, 0, 0, 0, 0, [])), (134, (8, 137, 3, 0, 0, 1, 0, [])), (137, (26, 140, 0, 4, 0, 0, 0, [])), (140, (4, 141, 0, 0, 0, 0, 0, [])), (141, (31, 144, 12, 16, 20, 0, 0, [])), (144, (0, 145, 0, 0, 0, 0, 0, [])), (145, (37, 146, 0, 0, 0, 0, 0, [])), (146, (53, 147, 0, 0, 0, 0, 0, []))], [(4, [1, 4]), (33, [1]), (71, [1])])
def tx_M_both : Tx := ([(0, (2, 1, 0, 0, 0, 0, 0, [])), (1, (27, 40, 0, 88, 0, 4, 0, [40, 44, 48, 52, 63, 74])), (40, (2, 41, 1, 0, 0, 0, 0, [])), (41, (2, 42, 2, 0, 0, 0, 0, [])), (42, (9, 43, 0, 0, 0, 0, 0, [])), (43, (53, 44, 0, 0, 0, 0, 0, [])), (44, (2, 45, 1, 0, 0, 0, 0, [])), (45, (2, 46, 2, 0, 0, 0, 0, [])), (46, (9, 47, 1, 0, 0, 0, 0, [])), (47, (53, 48, 0, 0, 0, 0, 0, [])), (48, (2, 49, 1, 0, 0, 0, 0, [])), (49, (2, 50, 2, 0, 0, 0, 0, [])), (50, (9, 51, 2, 0, 0, 0, 0, [])), (51, (53, 52, 0, 0, 0, 0, 0, [])), (52, (2, 53, 1, 0, 0, 0, 0, [])), (53, (2, 54, 2, 0, 0, 0, 0, [])), (54, (24, 57, 3, 61, 0, 0, 0, [])), (57, (0, 58, 0, 0, 0, 1, 0, [])), (58, (26, 61, 0, 62, 0, 0, 0, [])), (61, (0, 62, 0, 0, 0, 0, 0, [])), (62, (53, 63, 0, 0, 0, 0, 0, [])), (63, (2, 64, 1, 0, 0, 0, 0, [])), (64, (2, 65, 2, 0, 0, 0, 0, [])), (65, (24, 68, 1, 72, 0, 0, 0, [])), (68, (0, 69, 0, 0, 0, 1, 0, [])), (69, (26, 72, 0, 73, 0, 0, 0, [])), (72, (0, 73, 0, 0, 0, 0, 0, [])), (73, (53, 74, 0, 0, 0, 0, 0, [])), (74, (2, 75, 1, 0, 0, 0, 0, [])), (75, (25, 78, 0, 86, 0, 0, 0, [])), (78, (2, 79, 2, 0, 0, 0, 0, [])), (79, (25, 82, 0, 86, 0, 0, 0, [])), (82, (0, 83, 0, 0, 0, 1, 0, [])), (83, (26, 86, 0, 87, 0, 0, 0, [])), (86, (0, 87, 0, 0, 0, 0, 0, [])), (87, (53, 88, 0, 0, 0, 0, 0, [])), (88, (2, 89, 1, 0, 0, 0, 0, [])), (89, (25, 92, 1, 96, 0, 0, 0, [])), (92, (2, 93, 2, 0, 0, 0, 0, [])), (93, (25, 96, 0, 100, 0, 0, 0, [])), (96, (0, 97, 0, 0, 0, 1, 0, [])), (97, (26, 100, 0, 101, 0, 0, 0, [])), (100, (0, 101, 0, 0, 0, 0, 0, [])), (101, (53, 102, 0, 0, 0, 0, 0, []))], [(74, [0]), (88, [0])])
def tx_M_steps : Tx := ([(0, (4, 1, 0, 0, 0, 0, 0, [])), (1, (31, 4, 12, 10, 20, 0, 0, [])), (4, (0, 5, 0, 0, 0, 0, 0, [])), (5, (37, 6, 0, 0, 0, 0, 0, [])), (6, (53, 7, 0, 0, 0, 0, 0, []))], [])
def tx_M_strides : Tx := ([(0, (4, 1, 0, 0, 0, 0, 0, [])), (1, (31, 4, 12, 10, 20, 0, 0, [])), (4, (0, 6, 0, 0, 0, 8, 0, [])), (6, (37, 7, 0, 0, 0, 0, 0, [])), (7, (53, 8, 0, 0, 0, 0, 0, []))], [])
def tx_M_strideOf : Tx := ([(0, (4, 1, 0, 0, 0, 0, 0, [])), (1, (31, 4, 12, 10, 20, 0, 0, [])), (4, (0, 6, 0, 0, 0, 9, 0, [])), (6, (2, 7, 1, 0, 0, 0, 0, [])), (7, (9, 8, 0, 0, 0, 0, 0, [])), (8, (37, 9, 0, 0, 0, 0, 0, [])), (9, (53, 10, 0, 0, 0, 0, 0, []))], [])
def tx_M_kindOf : Tx := ([(0, (4, 1, 0, 0, 0, 0, 0, [])), (1, (31, 4, 12, 10, 20, 0, 0, [])), (4, (0, 6, 0, 0, 0, 26, 0, [])), (6, (2, 7, 1, 0, 0, 0, 0, [])), (7, (9, 8, 0, 0, 0, 0, 0, [])), (8, (37, 9, 0, 0, 0, 0, 0, [])), (9, (53, 10, 0, 0, 0, 0, 0, []))], [])
def tx_M_takenMany : Tx := ([(0, (4, 1, 0, 0, 0, 0, 0, [])), (1, (31, 4, 12, 17, 20, 0, 0, [])), (4, (0, 5, 0, 0, 0, 0, 0, [])), (5, (37, 6, 0, 0, 0, 0, 0, [])), (6, (53, 7, 0, 0, 0, 0, 0, []))], [])
def tx_M_indexOf : Tx := ([(0, (0, 1, 0, 0, 0, -1, 0, [])), (1, (5, 2, 2, 0, 0, 0, 0, [])), (2, (0, 3, 0, 0, 0, 0, 0, [])), (3, (5, 4, 3, 0, 0, 0, 0, [])), (4, (2, 5, 3, 0, 0, 0, 0, [])), (5, (4, 6, 0, 0, 0, 0, 0, [])), (6, (50, 9, 177, 1, 1, 0, 0, [12])), (9, (24, 12, 3, 33, 0, 0, 0, [])), (12, (4, 13, 0, 0, 0, 0, 0, [])), (13, (2, 14, 3, 0, 0, 0, 0, [])), (14, (50, 17, 178, 2, 1, 0, 0, [12])), (17, (2, 18, 1, 0, 0, 0, 0, [])), (18, (24, 21, 1, 25, 0, 0, 0, [])), (21, (2, 22, 3, 0, 0, 0, 0, [])), (22, (26, 25, 0, 26, 0, 0, 0, [])), (25, (2, 26, 2, 0, 0, 0, 0, [])), (26, (5, 27, 2, 0, 0, 0, 0, [])), (27, (8, 30, 3, 0, 0, 1, 0, [])), (30, (26, 33, 0, 4, 0, 0, 0, [])), (33, (2, 34, 2, 0, 0, 0, 0, [])), (34, (53, 35, 0, 0, 0, 0, 0, []))], [(4, [])])
def tx_M_isGreat : Tx := ([(0, (4, 1, 0, 0, 0, 0, 0, [])), (1, (31, 4, 12, 10, 20, 0, 0, [])), (4, (0, 5, 0, 0, 0, 5, 0, [])), (5, (37, 6, 0, 0, 0, 0, 0, [])), (6, (25, 9, 2, 23, 0, 0, 0, [])), (9, (2, 10, 1, 0, 0, 0, 0, [])), (10, (4, 11, 0, 0, 0, 0, 0, [])), (11, (31, 14, 12, 10, 20, 0, 0, [])), (14, (0, 15, 0, 0, 0, 5, 0, [])), (15, (37, 16, 0, 0, 0, 0, 0, [])), (16, (24, 19, 2, 23, 0, 0, 0, [])), (19, (0, 20, 0, 0, 0, 1, 0, [])), (20, (26, 23, 0, 24, 0, 0, 0, [])), (23, (0, 24, 0, 0, 0, 0, 0, [])), (24, (53, 25, 1, 0, 0, 0, 0, []))], [])
def tx_M_findNow : Tx := ([(0, (4, 1, 0, 0, 0, 0, 0, [])), (1, (0, 2, 0, 0, 0, 0, 0, [])), (2, (32, 5, 12, 19, 0, 0, 0, [])), (5, (4, 6, 0, 0, 0, 0, 0, [])), (6, (0, 7, 0, 0, 0, 0, 0, [])), (7, (32, 10, 12, 20, 0, 0, 0, [])), (10, (4, 11, 0, 0, 0, 0, 0, [])), (11, (0, 12, 0, 0, 0, 0, 0, [])), (12, (32, 15, 12, 21, 0, 0, 0, [])), (15, (4, 16, 0, 0, 0, 0, 0, [])), (16, (0, 17, 0, 0, 0, 0, 0, [])), (17, (32, 20, 12, 22, 0, 0, 0, [])), (20, (0, 21, 0, 0, 0, 0, 0, [])), (21, (5, 22, 1, 0, 0, 0, 0, [])), (22, (2, 23, 1, 0, 0, 0, 0, [])), (23, (4, 24, 0, 0, 0, 0, 0, [])), (24, (50, 27, 180, 1, 1, 0, 0, [12])), (27, (24, 30, 3, 114, 0, 0, 0, [])), (30, (4, 31, 0, 0, 0, 0, 0, [])), (31, (31, 34, 12, 17, 20, 0, 0, [])), (34, (0, 35, 0, 0, 0, 1, 0, [])), (35, (2, 36, 1, 0, 0, 0, 0, [])), (36, (9, 37, 0, 0, 0, 0, 0, [])), (37, (37, 38, 0, 0, 0, 0, 0, [])), (38, (5, 39, 2, 0, 0, 0, 0, [])), (39, (4, 40, 0, 0, 0, 0, 0, [])), (40, (22, 41, 0, 0, 0, 0, 0, [])), (41, (29, 44, 12, 19, 0, 0, 0, [])), (44, (2, 45, 2, 0, 0, 0, 0, [])), (45, (9, 46, 0, 0, 0, 0, 0, [])), (46, (32, 49, 12, 19, 0, 0, 0, [])), (49, (4, 50, 0, 0, 0, 0, 0, [])), (50, (0, 51, 0, 0, 0, 1, 0, [])), (51, (4, 52, 0, 0, 0, 0, 0, [])), (52, (2, 53, 2, 0, 0, 0, 0, [])), (53, (50, 56, 181, 2, 1, 0, 0, [12])), (56, (9, 57, 0, 0, 0, 0, 0, [])), (57, (32, 60, 12, 20, 0, 0, 0, [])), (60, (4, 61, 0, 0, 0, 0, 0, [])), (61, (22, 62, 0, 0, 0, 0, 0, [])), (62, (29, 65, 12, 21, 0, 0, 0, [])), (65, (4, 66, 0, 0, 0, 0, 0, [])), (66, (4, 67, 0, 0, 0, 0, 0, [])), (67, (29, 70, 12, 19, 0, 0, 0, [])), (70, (50, 73, 179, 2, 1, 0, 0, [12])), (73, (0, 74, 0, 0, 0, 2, 0, [])), (74, (24, 77, 1, 81, 0, 0, 0, [])), (77, (0, 78, 0, 0, 0, 1, 0, [])), (78, (26, 81, 0, 82, 0, 0, 0, [])), (81, (0, 82, 0, 0, 0, 0, 0, [])), (82, (9, 83, 0, 0, 0, 0, 0, [])), (83, (32, 86, 12, 21, 0, 0, 0, [])), (86, (4, 87, 0, 0, 0, 0, 0, [])), (87, (22, 88, 0, 0, 0, 0, 0, [])), (88, (29, 91, 12, 22, 0, 0, 0, [])), (91, (4, 92, 0, 0, 0, 0, 0, [])), (92, (2, 93, 2, 0, 0, 0, 0, [])), (93, (50, 96, 182, 2, 1, 0, 0, [12])), (96, (25, 99, 0, 103, 0, 0, 0, [])), (99, (0, 100, 0, 0, 0, 1, 0, [])), (100, (26, 103, 0, 104, 0, 0, 0, [])), (103, (0, 104, 0, 0, 0, 0, 0, [])), (104, (9, 105, 0, 0, 0, 0, 0, [])), (105, (32, 108, 12, 22, 0, 0, 0, [])), (108, (8, 111, 1, 0, 0, 1, 0, [])), (111, (26, 114, 0, 22, 0, 0, 0, [])), (114, (55, 115, 0, 0, 0, 0, 0, []))], [(22, [2]), (82, [])])
def tx_M_placeOf : Tx := ([(0, (2, 1, 0, 0, 0, 0, 0, [])), (1, (0, 3, 0, 0, 0, 7, 0, [])), (3, (9, 4, 2, 0, 0, 0, 0, [])), (4, (2, 5, 1, 0, 0, 0, 0, [])), (5, (9, 6, 0, 0, 0, 0, 0, [])), (6, (0, 7, 0, 0, 0, 5, 0, [])), (7, (9, 8, 2, 0, 0, 0, 0, [])), (8, (2, 9, 2, 0, 0, 0, 0, [])), (9, (9, 10, 0, 0, 0, 0, 0, [])), (10, (0, 11, 0, 0, 0, 5, 0, [])), (11, (9, 12, 2, 0, 0, 0, 0, [])), (12, (2, 13, 3, 0, 0, 0, 0, [])), (13, (9, 14, 0, 0, 0, 0, 0, [])), (14, (0, 16, 0, 0, 0, 41, 0, [])), (16, (9, 17, 2, 0, 0, 0, 0, [])), (17, (2, 19, 4, 0, 0, 0, 0, [])), (19, (9, 20, 0, 0, 0, 0, 0, [])), (20, (53, 21, 0, 0, 0, 0, 0, []))], [])
def tx_M_creakOf : Tx := ([(0, (4, 1, 0, 0, 0, 0, 0, [])), (1, (31, 4, 12, 10, 20, 0, 0, [])), (4, (0, 5, 0, 0, 0, 1, 0, [])), (5, (37, 6, 0, 0, 0, 0, 0, [])), (6, (25, 9, 3, 13, 0, 0, 0, [])), (9, (0, 10, 0, 0, 0, 0, 0, [])), (10, (26, 13, 0, 14, 0, 0, 0, [])), (13, (2, 14, 1, 0, 0, 0, 0, [])), (14, (53, 15, 0, 0, 0, 0, 0, []))], [])
def tx_M_isShut : Tx := ([(0, (4, 1, 0, 0, 0, 0, 0, [])), (1, (2, 2, 1, 0, 0, 0, 0, [])), (2, (50, 5, 179, 2, 1, 0, 0, [12])), (5, (0, 6, 0, 0, 0, 1, 0, [])), (6, (24, 9, 0, 29, 0, 0, 0, [])), (9, (4, 10, 0, 0, 0, 0, 0, [])), (10, (29, 13, 12, 24, 0, 0, 0, [])), (13, (25, 16, 0, 33, 0, 0, 0, [])), (16, (4, 17, 0, 0, 0, 0, 0, [])), (17, (31, 20, 12, 17, 20, 0, 0, [])), (20, (0, 22, 0, 0, 0, 41, 0, [])), (22, (2, 23, 1, 0, 0, 0, 0, [])), (23, (9, 24, 0, 0, 0, 0, 0, [])), (24, (37, 25, 0, 0, 0, 0, 0, [])), (25, (0, 26, 0, 0, 0, 2, 0, [])), (26, (24, 29, 1, 33, 0, 0, 0, [])), (29, (0, 30, 0, 0, 0, 1, 0, [])), (30, (26, 33, 0, 34, 0, 0, 0, [])), (33, (0, 34, 0, 0, 0, 0, 0, [])), (34, (53, 35, 1, 0, 0, 0, 0, []))], [])
def tx_M_isMust : Tx := ([(0, (4, 1, 0, 0, 0, 0, 0, [])), (1, (2, 2, 1, 0, 0, 0, 0, [])), (2, (50, 5, 179, 2, 1, 0, 0, [12])), (5, (0, 6, 0, 0, 0, 3, 0, [])), (6, (24, 9, 0, 29, 0, 0, 0, [])), (9, (4, 10, 0, 0, 0, 0, 0, [])), (10, (29, 13, 12, 24, 0, 0, 0, [])), (13, (25, 16, 0, 33, 0, 0, 0, [])), (16, (4, 17, 0, 0, 0, 0, 0, [])), (17, (31, 20, 12, 17, 20, 0, 0, [])), (20, (0, 22, 0, 0, 0, 41, 0, [])), (22, (2, 23, 1, 0, 0, 0, 0, [])), (23, (9, 24, 0, 0, 0, 0, 0, [])), (24, (37, 25, 0, 0, 0, 0, 0, [])), (25, (0, 26, 0, 0, 0, 1, 0, [])), (26, (24, 29, 1, 33, 0, 0, 0, [])), (29, (0, 30, 0, 0, 0, 1, 0, [])), (30, (26, 33, 0, 34, 0, 0, 0, [])), (33, (0, 34, 0, 0, 0, 0, 0, [])), (34, (53, 35, 1, 0, 0, 0, 0, []))], [])
def tx_M_passesMust : Tx := ([(0, (0, 1, 0, 0, 0, 0, 0, [])), (1, (5, 2, 3, 0, 0, 0, 0, [])), (2, (2, 3, 1, 0, 0, 0, 0, [])), (3, (0, 4, 0, 0, 0, 1, 0, [])), (4, (9, 5, 0, 0, 0, 0, 0, [])), (5, (5, 7, 4, 0, 0, 0, 0, [])), (7, (2, 9, 4, 0, 0, 0, 0, [])), (9, (2, 10, 2, 0, 0, 0, 0, [])), (10, (24, 13, 3, 38, 0, 0, 0, [])), (13, (2, 14, 3, 0, 0, 0, 0, [])), (14, (25, 17, 1, 26, 0, 0, 0, [])), (17, (4, 18, 0, 0, 0, 0, 0, [])), (18, (2, 20, 4, 0, 0, 0, 0, [])), (20, (50, 23, 187, 2, 1, 0, 0, [12])), (23, (25, 26, 0, 30, 0, 0, 0, [])), (26, (0, 27, 0, 0, 0, 1, 0, [])), (27, (26, 30, 0, 31, 0, 0, 0, [])), (30, (0, 31, 0, 0, 0, 0, 0, [])), (31, (5, 32, 3, 0, 0, 0, 0, [])), (32, (8, 35, 4, 0, 0, 1, 0, [])), (35, (26, 38, 0, 7, 0, 0, 0, [])), (38, (2, 39, 3, 0, 0, 0, 0, [])), (39, (53, 40, 1, 0, 0, 0, 0, []))], [(7, [1])])
def tx_M_mayNext : Tx := ([(0, (4, 1, 0, 0, 0, 0, 0, [])), (1, (2, 3, 6, 0, 0, 0, 0, [])), (3, (50, 6, 178, 2, 1, 0, 0, [12])), (6, (5, 8, 7, 0, 0, 0, 0, [])), (8, (2, 9, 1, 0, 0, 0, 0, [])), (9, (2, 11, 7, 0, 0, 0, 0, [])), (11, (9, 12, 0, 0, 0, 0, 0, [])), (12, (4, 13, 0, 0, 0, 0, 0, [])), (13, (50, 16, 176, 1, 1, 0, 0, [12])), (16, (24, 19, 4, 76, 0, 0, 0, [])), (19, (4, 20, 0, 0, 0, 0, 0, [])), (20, (2, 21, 1, 0, 0, 0, 0, [])), (21, (2, 23, 7, 0, 0, 0, 0, [])), (23, (9, 24, 0, 0, 0, 0, 0, [])), (24, (50, 27, 186, 2, 1, 0, 0, [12])), (27, (25, 30, 1, 76, 0, 0, 0, [])), (30, (4, 31, 0, 0, 0, 0, 0, [])), (31, (2, 32, 1, 0, 0, 0, 0, [])), (32, (2, 33, 1, 0, 0, 0, 0, [])), (33, (2, 35, 7, 0, 0, 0, 0, [])), (35, (9, 36, 0, 0, 0, 0, 0, [])), (36, (50, 39, 188, 3, 1, 0, 0, [12])), (39, (25, 42, 1, 76, 0, 0, 0, [])), (42, (2, 43, 2, 0, 0, 0, 0, [])), (43, (25, 46, 5, 63, 0, 0, 0, [])), (46, (4, 47, 0, 0, 0, 0, 0, [])), (47, (0, 48, 0, 0, 0, 0, 0, [])), (48, (4, 49, 0, 0, 0, 0, 0, [])), (49, (2, 50, 2, 0, 0, 0, 0, [])), (50, (0, 51, 0, 0, 0, 1, 0, [])), (51, (9, 52, 1, 0, 0, 0, 0, [])), (52, (50, 55, 178, 2, 1, 0, 0, [12])), (55, (2, 57, 7, 0, 0, 0, 0, [])), (57, (50, 60, 164, 4, 1, 0, 0, [12])), (60, (25, 63, 1, 76, 0, 0, 0, [])), (63, (2, 65, 5, 0, 0, 0, 0, [])), (65, (0, 66, 0, 0, 0, 1, 0, [])), (66, (9, 67, 0, 0, 0, 0, 0, [])), (67, (4, 68, 0, 0, 0, 0, 0, [])), (68, (31, 71, 12, 10, 20, 0, 0, [])), (71, (0, 72, 0, 0, 0, 4, 0, [])), (72, (37, 73, 0, 0, 0, 0, 0, [])), (73, (24, 76, 5, 78, 0, 0, 0, [])), (76, (0, 77, 0, 0, 0, 0, 0, [])), (77, (53, 78, 1, 0, 0, 0, 0, [])), (78, (4, 79, 0, 0, 0, 0, 0, [])), (79, (2, 80, 1, 0, 0, 0, 0, [])), (80, (2, 82, 7, 0, 0, 0, 0, [])), (82, (9, 83, 0, 0, 0, 0, 0, [])), (83, (50, 86, 179, 2, 1, 0, 0, [12])), (86, (0, 87, 0, 0, 0, 2, 0, [])), (87, (24, 90, 1, 115, 0, 0, 0, [])), (90, (4, 91, 0, 0, 0, 0, 0, [])), (91, (31, 94, 12, 10, 20, 0, 0, [])), (94, (0, 95, 0, 0, 0, 1, 0, [])), (95, (37, 96, 0, 0, 0, 0, 0, [])), (96, (25, 99, 2, 115, 0, 0, 0, [])), (99, (2, 100, 3, 0, 0, 0, 0, [])), (100, (0, 101, 0, 0, 0, 1, 0, [])), (101, (9, 102, 0, 0, 0, 0, 0, [])), (102, (4, 103, 0, 0, 0, 0, 0, [])), (103, (31, 106, 12, 10, 20, 0, 0, [])), (106, (0, 107, 0, 0, 0, 1, 0, [])), (107, (37, 108, 0, 0, 0, 0, 0, [])), (108, (24, 111, 5, 115, 0, 0, 0, [])), (111, (0, 112, 0, 0, 0, 1, 0, [])), (112, (26, 115, 0, 116, 0, 0, 0, [])), (115, (0, 116, 0, 0, 0, 0, 0, [])), (116, (5, 118, 8, 0, 0, 0, 0, [])), (118, (2, 120, 8, 0, 0, 0, 0, [])), (120, (25, 123, 1, 150, 0, 0, 0, [])), (123, (4, 124, 0, 0, 0, 0, 0, [])), (124, (2, 126, 7, 0, 0, 0, 0, [])), (126, (50, 129, 182, 2, 1, 0, 0, [12])), (129, (25, 132, 0, 146, 0, 0, 0, [])), (132, (2, 134, 4, 0, 0, 0, 0, [])), (134, (0, 135, 0, 0, 0, 1, 0, [])), (135, (9, 136, 0, 0, 0, 0, 0, [])), (136, (4, 137, 0, 0, 0, 0, 0, [])), (137, (31, 140, 12, 10, 20, 0, 0, [])), (140, (0, 142, 0, 0, 0, 6, 0, [])), (142, (37, 143, 0, 0, 0, 0, 0, [])), (143, (24, 146, 4, 150, 0, 0, 0, [])), (146, (0, 147, 0, 0, 0, 1, 0, [])), (147, (26, 150, 0, 151, 0, 0, 0, [])), (150, (0, 151, 0, 0, 0, 0, 0, [])), (151, (53, 152, 1, 0, 0, 0, 0, []))], [(63, [2, 6, 8]), (116, [1, 2, 3, 5, 6, 8])])
def tx_M_nextAt : Tx := ([(0, (4, 1, 0, 0, 0, 0, 0, [])), (1, (2, 3, 6, 0, 0, 0, 0, [])), (3, (50, 6, 178, 2, 1, 0, 0, [12])), (6, (5, 8, 7, 0, 0, 0, 0, [])), (8, (2, 9, 1, 0, 0, 0, 0, [])), (9, (2, 11, 7, 0, 0, 0, 0, [])), (11, (9, 12, 0, 0, 0, 0, 0, [])), (12, (2, 14, 6, 0, 0, 0, 0, [])), (14, (0, 15, 0, 0, 0, 1, 0, [])), (15, (9, 16, 0, 0, 0, 0, 0, [])), (16, (2, 17, 3, 0, 0, 0, 0, [])), (17, (4, 18, 0, 0, 0, 0, 0, [])), (18, (2, 19, 1, 0, 0, 0, 0, [])), (19, (2, 21, 7, 0, 0, 0, 0, [])), (21, (9, 22, 0, 0, 0, 0, 0, [])), (22, (50, 25, 179, 2, 1, 0, 0, [12])), (25, (0, 26, 0, 0, 0, 2, 0, [])), (26, (24, 29, 1, 42, 0, 0, 0, [])), (29, (4, 30, 0, 0, 0, 0, 0, [])), (30, (31, 33, 12, 10, 20, 0, 0, [])), (33, (0, 34, 0, 0, 0, 1, 0, [])), (34, (37, 35, 0, 0, 0, 0, 0, [])), (35, (25, 38, 2, 42, 0, 0, 0, [])), (38, (0, 39, 0, 0, 0, 1, 0, [])), (39, (26, 42, 0, 43, 0, 0, 0, [])), (42, (0, 43, 0, 0, 0, 0, 0, [])), (43, (9, 44, 0, 0, 0, 0, 0, [])), (44, (2, 46, 4, 0, 0, 0, 0, [])), (46, (4, 47, 0, 0, 0, 0, 0, [])), (47, (2, 49, 7, 0, 0, 0, 0, [])), (49, (50, 52, 182, 2, 1, 0, 0, [12])), (52, (25, 55, 0, 59, 0, 0, 0, [])), (55, (0, 56, 0, 0, 0, 1, 0, [])), (56, (26, 59, 0, 60, 0, 0, 0, [])), (59, (0, 60, 0, 0, 0, 0, 0, [])), (60, (9, 61, 0, 0, 0, 0, 0, [])), (61, (2, 63, 5, 0, 0, 0, 0, [])), (63, (0, 64, 0, 0, 0, 1, 0, [])), (64, (9, 65, 0, 0, 0, 0, 0, [])), (65, (50, 68, 184, 5, 1, 0, 0, [])), (68, (53, 69, 0, 0, 0, 0, 0, []))], [(43, [1, 2, 3, 6])])
def tx_M_mostCreaks : Tx := ([(0, (4, 1, 0, 0, 0, 0, 0, [])), (1, (31, 4, 12, 10, 20, 0, 0, [])), (4, (0, 5, 0, 0, 0, 1, 0, [])), (5, (37, 6, 0, 0, 0, 0, 0, [])), (6, (25, 9, 3, 13, 0, 0, 0, [])), (9, (0, 10, 0, 0, 0, 0, 0, [])), (10, (26, 13, 0, 19, 0, 0, 0, [])), (13, (4, 14, 0, 0, 0, 0, 0, [])), (14, (31, 17, 12, 10, 20, 0, 0, [])), (17, (0, 18, 0, 0, 0, 1, 0, [])), (18, (37, 19, 0, 0, 0, 0, 0, [])), (19, (53, 20, 0, 0, 0, 0, 0, []))], [])
def tx_M_mostGreats : Tx := ([(0, (4, 1, 0, 0, 0, 0, 0, [])), (1, (31, 4, 12, 10, 20, 0, 0, [])), (4, (0, 5, 0, 0, 0, 5, 0, [])), (5, (37, 6, 0, 0, 0, 0, 0, [])), (6, (25, 9, 3, 13, 0, 0, 0, [])), (9, (0, 10, 0, 0, 0, 0, 0, [])), (10, (26, 13, 0, 20, 0, 0, 0, [])), (13, (4, 14, 0, 0, 0, 0, 0, [])), (14, (31, 17, 12, 10, 20, 0, 0, [])), (17, (0, 19, 0, 0, 0, 6, 0, [])), (19, (37, 20, 0, 0, 0, 0, 0, [])), (20, (53, 21, 0, 0, 0, 0, 0, []))], [])
def tx_M_isLawfulAt : Tx := ([(0, (4, 1, 0, 0, 0, 0, 0, [])), (1, (31, 4, 12, 10, 20, 0, 0, [])), (4, (0, 5, 0, 0, 0, 2, 0, [])), (5, (37, 6, 0, 0, 0, 0, 0, [])), (6, (25, 9, 2, 23, 0, 0, 0, [])), (9, (4, 10, 0, 0, 0, 0, 0, [])), (10, (31, 13, 12, 10, 20, 0, 0, [])), (13, (0, 14, 0, 0, 0, 2, 0, [])), (14, (37, 15, 0, 0, 0, 0, 0, [])), (15, (2, 16, 1, 0, 0, 0, 0, [])), (16, (0, 17, 0, 0, 0, 1, 0, [])), (17, (9, 18, 0, 0, 0, 0, 0, [])), (18, (0, 19, 0, 0, 0, 2, 0, [])), (19, (11, 20, 0, 0, 0, 0, 0, [])), (20, (24, 23, 1, 27, 0, 0, 0, [])), (23, (0, 24, 0, 0, 0, 1, 0, [])), (24, (26, 27, 0, 28, 0, 0, 0, [])), (27, (0, 28, 0, 0, 0, 0, 0, [])), (28, (5, 29, 2, 0, 0, 0, 0, [])), (29, (2, 30, 2, 0, 0, 0, 0, [])), (30, (25, 33, 0, 57, 0, 0, 0, [])), (33, (2, 34, 1, 0, 0, 0, 0, [])), (34, (4, 35, 0, 0, 0, 0, 0, [])), (35, (31, 38, 12, 10, 20, 0, 0, [])), (38, (0, 39, 0, 0, 0, 3, 0, [])), (39, (37, 40, 0, 0, 0, 0, 0, [])), (40, (24, 43, 2, 57, 0, 0, 0, [])), (43, (2, 44, 1, 0, 0, 0, 0, [])), (44, (4, 45, 0, 0, 0, 0, 0, [])), (45, (31, 48, 12, 10, 20, 0, 0, [])), (48, (0, 49, 0, 0, 0, 4, 0, [])), (49, (37, 50, 0, 0, 0, 0, 0, [])), (50, (24, 53, 4, 57, 0, 0, 0, [])), (53, (0, 54, 0, 0, 0, 1, 0, [])), (54, (26, 57, 0, 58, 0, 0, 0, [])), (57, (0, 58, 0, 0, 0, 0, 0, [])), (58, (53, 59, 1, 0, 0, 0, 0, []))], [(28, [2])])
def tx_M_lays : Tx := ([(0, (4, 1, 0, 0, 0, 0, 0, [])), (1, (50, 4, 176, 1, 1, 0, 0, [12])), (4, (5, 5, 3, 0, 0, 0, 0, [])), (5, (2, 6, 3, 0, 0, 0, 0, [])), (6, (25, 9, 2, 135, 0, 0, 0, [])), (9, (0, 10, 0, 0, 0, 0, 0, [])), (10, (5, 12, 4, 0, 0, 0, 0, [])), (12, (2, 14, 4, 0, 0, 0, 0, [])), (14, (4, 15, 0, 0, 0, 0, 0, [])), (15, (50, 18, 177, 1, 1, 0, 0, [12])), (18, (24, 21, 4, 129, 0, 0, 0, [])), (21, (0, 22, 0, 0, 0, 0, 0, [])), (22, (5, 24, 5, 0, 0, 0, 0, [])), (24, (2, 26, 5, 0, 0, 0, 0, [])), (26, (4, 27, 0, 0, 0, 0, 0, [])), (27, (50, 30, 191, 1, 1, 0, 0, [12])), (30, (24, 33, 4, 123, 0, 0, 0, [])), (33, (0, 34, 0, 0, 0, 0, 0, [])), (34, (5, 36, 6, 0, 0, 0, 0, [])), (36, (2, 38, 6, 0, 0, 0, 0, [])), (38, (4, 39, 0, 0, 0, 0, 0, [])), (39, (50, 42, 192, 1, 1, 0, 0, [12])), (42, (24, 45, 4, 117, 0, 0, 0, [])), (45, (0, 46, 0, 0, 0, 0, 0, [])), (46, (5, 48, 7, 0, 0, 0, 0, [])), (48, (2, 50, 7, 0, 0, 0, 0, [])), (50, (2, 51, 3, 0, 0, 0, 0, [])), (51, (24, 54, 4, 111, 0, 0, 0, [])), (54, (4, 55, 0, 0, 0, 0, 0, [])), (55, (31, 58, 12, 23, 21, 0, 0, [])), (58, (2, 59, 3, 0, 0, 0, 0, [])), (59, (2, 61, 4, 0, 0, 0, 0, [])), (61, (2, 63, 5, 0, 0, 0, 0, [])), (63, (2, 65, 6, 0, 0, 0, 0, [])), (65, (2, 67, 7, 0, 0, 0, 0, [])), (67, (50, 70, 184, 5, 1, 0, 0, [])), (70, (2, 71, 2, 0, 0, 0, 0, [])), (71, (25, 74, 0, 90, 0, 0, 0, [])), (74, (4, 75, 0, 0, 0, 0, 0, [])), (75, (2, 76, 3, 0, 0, 0, 0, [])), (76, (2, 78, 4, 0, 0, 0, 0, [])), (78, (2, 80, 5, 0, 0, 0, 0, [])), (80, (2, 82, 6, 0, 0, 0, 0, [])), (82, (2, 84, 7, 0, 0, 0, 0, [])), (84, (50, 87, 196, 6, 2, 0, 0, [12])), (87, (26, 90, 0, 104, 0, 0, 0, [])), (90, (4, 91, 0, 0, 0, 0, 0, [])), (91, (2, 92, 3, 0, 0, 0, 0, [])), (92, (2, 94, 4, 0, 0, 0, 0, [])), (94, (2, 96, 5, 0, 0, 0, 0, [])), (96, (2, 98, 6, 0, 0, 0, 0, [])), (98, (2, 100, 7, 0, 0, 0, 0, [])), (100, (2, 101, 1, 0, 0, 0, 0, [])), (101, (50, 104, 195, 7, 2, 0, 0, [12])), (104, (43, 105, 0, 0, 0, 0, 0, [])), (105, (8, 108, 7, 0, 0, 1, 0, [])), (108, (26, 111, 0, 48, 0, 0, 0, [])), (111, (8, 114, 6, 0, 0, 1, 0, [])), (114, (26, 117, 0, 36, 0, 0, 0, [])), (117, (8, 120, 5, 0, 0, 1, 0, [])), (120, (26, 123, 0, 24, 0, 0, 0, [])), (123, (8, 126, 4, 0, 0, 1, 0, [])), (126, (26, 129, 0, 12, 0, 0, 0, [])), (129, (8, 132, 3, 0, 0, -1, 0, [])), (132, (26, 135, 0, 5, 0, 0, 0, [])), (135, (55, 136, 0, 0, 0, 0, 0, []))], [(5, [4, 5, 6, 7]), (12, [5, 6, 7]), (24, [6, 7]), (36, [7]), (48, [])])
def tx_M_ways : Tx := ([(0, (2, 1, 1, 0, 0, 0, 0, [])), (1, (4, 2, 0, 0, 0, 0, 0, [])), (2, (50, 5, 176, 1, 1, 0, 0, [12])), (5, (24, 8, 1, 35, 0, 0, 0, [])), (8, (4, 9, 0, 0, 0, 0, 0, [])), (9, (2, 11, 5, 0, 0, 0, 0, [])), (11, (50, 14, 193, 2, 1, 0, 0, [12])), (14, (25, 17, 0, 33, 0, 0, 0, [])), (17, (2, 19, 6, 0, 0, 0, 0, [])), (19, (25, 22, 2, 29, 0, 0, 0, [])), (22, (2, 24, 6, 0, 0, 0, 0, [])), (24, (2, 26, 5, 0, 0, 0, 0, [])), (26, (24, 29, 1, 33, 0, 0, 0, [])), (29, (1, 30, 0, 0, 0, 0, 1, [])), (30, (26, 33, 0, 34, 0, 0, 0, [])), (33, (1, 34, 0, 0, 0, 0, 0, [])), (34, (54, 35, 0, 0, 0, 0, 0, [])), (35, (1, 36, 0, 0, 0, 0, 0, [])), (36, (6, 38, 7, 0, 0, 0, 0, [])), (38, (0, 39, 0, 0, 0, 0, 0, [])), (39, (5, 41, 9, 0, 0, 0, 0, [])), (41, (2, 43, 9, 0, 0, 0, 0, [])), (43, (4, 44, 0, 0, 0, 0, 0, [])), (44, (50, 47, 177, 1, 1, 0, 0, [12])), (47, (24, 50, 3, 99, 0, 0, 0, [])), (50, (3, 52, 7, 0, 0, 0, 0, [])), (52, (4, 53, 0, 0, 0, 0, 0, [])), (53, (2, 54, 1, 0, 0, 0, 0, [])), (54, (2, 55, 2, 0, 0, 0, 0, [])), (55, (2, 56, 3, 0, 0, 0, 0, [])), (56, (2, 58, 4, 0, 0, 0, 0, [])), (58, (2, 60, 5, 0, 0, 0, 0, [])), (60, (2, 62, 9, 0, 0, 0, 0, [])), (62, (50, 65, 189, 7, 1, 0, 0, [12])), (65, (25, 68, 0, 89, 0, 0, 0, [])), (68, (4, 69, 0, 0, 0, 0, 0, [])), (69, (31, 72, 12, 23, 21, 0, 0, [])), (72, (4, 73, 0, 0, 0, 0, 0, [])), (73, (2, 74, 1, 0, 0, 0, 0, [])), (74, (2, 75, 2, 0, 0, 0, 0, [])), (75, (2, 76, 3, 0, 0, 0, 0, [])), (76, (2, 78, 4, 0, 0, 0, 0, [])), (78, (2, 80, 5, 0, 0, 0, 0, [])), (80, (2, 82, 9, 0, 0, 0, 0, [])), (82, (50, 85, 190, 7, 1, 0, 0, [12])), (85, (38, 86, 0, 0, 0, 0, 0, [])), (86, (26, 89, 0, 90, 0, 0, 0, [])), (89, (1, 90, 0, 0, 0, 0, 0, [])), (90, (13, 91, 0, 0, 0, 0, 0, [])), (91, (6, 93, 7, 0, 0, 0, 0, [])), (93, (8, 96, 9, 0, 0, 1, 0, [])), (96, (26, 99, 0, 41, 0, 0, 0, [])), (99, (3, 101, 7, 0, 0, 0, 0, [])), (101, (54, 102, 0, 0, 0, 0, 0, []))], [(41, [6, 8])])
def tx_M_wins : Tx := ([(0, (0, 1, 0, 0, 0, 0, 0, [])), (1, (5, 3, 6, 0, 0, 0, 0, [])), (3, (0, 4, 0, 0, 0, 0, 0, [])), (4, (5, 6, 7, 0, 0, 0, 0, [])), (6, (2, 8, 7, 0, 0, 0, 0, [])), (8, (4, 9, 0, 0, 0, 0, 0, [])), (9, (50, 12, 177, 1, 1, 0, 0, [12])), (12, (24, 15, 3, 95, 0, 0, 0, [])), (15, (2, 16, 1, 0, 0, 0, 0, [])), (16, (4, 17, 0, 0, 0, 0, 0, [])), (17, (50, 20, 176, 1, 1, 0, 0, [12])), (20, (24, 23, 3, 95, 0, 0, 0, [])), (23, (2, 25, 6, 0, 0, 0, 0, [])), (25, (25, 28, 1, 82, 0, 0, 0, [])), (28, (4, 29, 0, 0, 0, 0, 0, [])), (29, (2, 30, 1, 0, 0, 0, 0, [])), (30, (2, 31, 2, 0, 0, 0, 0, [])), (31, (2, 32, 3, 0, 0, 0, 0, [])), (32, (2, 34, 4, 0, 0, 0, 0, [])), (34, (2, 36, 5, 0, 0, 0, 0, [])), (36, (2, 38, 7, 0, 0, 0, 0, [])), (38, (50, 41, 189, 7, 1, 0, 0, [12])), (41, (25, 44, 0, 86, 0, 0, 0, [])), (44, (2, 45, 1, 0, 0, 0, 0, [])), (45, (4, 46, 0, 0, 0, 0, 0, [])), (46, (2, 48, 7, 0, 0, 0, 0, [])), (48, (50, 51, 178, 2, 1, 0, 0, [12])), (51, (9, 52, 0, 0, 0, 0, 0, [])), (52, (4, 53, 0, 0, 0, 0, 0, [])), (53, (50, 56, 176, 1, 1, 0, 0, [12])), (56, (24, 59, 0, 82, 0, 0, 0, [])), (59, (4, 60, 0, 0, 0, 0, 0, [])), (60, (31, 63, 12, 23, 21, 0, 0, [])), (63, (4, 64, 0, 0, 0, 0, 0, [])), (64, (2, 65, 1, 0, 0, 0, 0, [])), (65, (2, 66, 2, 0, 0, 0, 0, [])), (66, (2, 67, 3, 0, 0, 0, 0, [])), (67, (2, 69, 4, 0, 0, 0, 0, [])), (69, (2, 71, 5, 0, 0, 0, 0, [])), (71, (2, 73, 7, 0, 0, 0, 0, [])), (73, (50, 76, 190, 7, 1, 0, 0, [12])), (76, (38, 77, 0, 0, 0, 0, 0, [])), (77, (1, 78, 0, 0, 0, 0, 0, [])), (78, (21, 79, 0, 0, 0, 0, 0, [])), (79, (25, 82, 1, 86, 0, 0, 0, [])), (82, (0, 83, 0, 0, 0, 1, 0, [])), (83, (26, 86, 0, 87, 0, 0, 0, [])), (86, (0, 87, 0, 0, 0, 0, 0, [])), (87, (5, 89, 6, 0, 0, 0, 0, [])), (89, (8, 92, 7, 0, 0, 1, 0, [])), (92, (26, 95, 0, 6, 0, 0, 0, [])), (95, (2, 97, 6, 0, 0, 0, 0, [])), (97, (25, 100, 0, 104, 0, 0, 0, [])), (100, (1, 101, 0, 0, 0, 0, 1, [])), (101, (26, 104, 0, 105, 0, 0, 0, [])), (104, (1, 105, 0, 0, 0, 0, 0, [])), (105, (54, 106, 0, 0, 0, 0, 0, []))], [(6, []), (28, [6])])
def tx_M_nowAt : Tx := ([(0, (4, 1, 0, 0, 0, 0, 0, [])), (1, (29, 4, 12, 19, 0, 0, 0, [])), (4, (4, 5, 0, 0, 0, 0, 0, [])), (5, (29, 8, 12, 20, 0, 0, 0, [])), (8, (4, 9, 0, 0, 0, 0, 0, [])), (9, (4, 10, 0, 0, 0, 0, 0, [])), (10, (29, 13, 12, 21, 0, 0, 0, [])), (13, (50, 16, 185, 2, 1, 0, 0, [12])), (16, (4, 17, 0, 0, 0, 0, 0, [])), (17, (29, 20, 12, 22, 0, 0, 0, [])), (20, (4, 21, 0, 0, 0, 0, 0, [])), (21, (50, 24, 180, 1, 1, 0, 0, [12])), (24, (50, 27, 184, 5, 1, 0, 0, [])), (27, (53, 28, 0, 0, 0, 0, 0, []))], [])
def tx_M_mayNow : Tx := ([(0, (4, 1, 0, 0, 0, 0, 0, [])), (1, (4, 2, 0, 0, 0, 0, 0, [])), (2, (29, 5, 12, 19, 0, 0, 0, [])), (5, (4, 6, 0, 0, 0, 0, 0, [])), (6, (29, 9, 12, 20, 0, 0, 0, [])), (9, (4, 10, 0, 0, 0, 0, 0, [])), (10, (4, 11, 0, 0, 0, 0, 0, [])), (11, (29, 14, 12, 21, 0, 0, 0, [])), (14, (50, 17, 185, 2, 1, 0, 0, [12])), (17, (4, 18, 0, 0, 0, 0, 0, [])), (18, (29, 21, 12, 22, 0, 0, 0, [])), (21, (4, 22, 0, 0, 0, 0, 0, [])), (22, (50, 25, 180, 1, 1, 0, 0, [12])), (25, (2, 26, 1, 0, 0, 0, 0, [])), (26, (50, 29, 189, 7, 1, 0, 0, [12])), (29, (53, 30, 1, 0, 0, 0, 0, []))], [])
def tx_M_step : Tx := ([(0, (4, 1, 0, 0, 0, 0, 0, [])), (1, (0, 2, 0, 0, 0, 0, 0, [])), (2, (32, 5, 12, 0, 0, 0, 0, [])), (5, (2, 6, 1, 0, 0, 0, 0, [])), (6, (0, 7, 0, 0, 0, 0, 0, [])), (7, (4, 8, 0, 0, 0, 0, 0, [])), (8, (50, 11, 176, 1, 1, 0, 0, [12])), (11, (50, 14, 154, 3, 1, 0, 0, [])), (14, (25, 17, 0, 26, 0, 0, 0, [])), (17, (2, 18, 2, 0, 0, 0, 0, [])), (18, (0, 19, 0, 0, 0, 0, 0, [])), (19, (0, 20, 0, 0, 0, 2, 0, [])), (20, (50, 23, 154, 3, 1, 0, 0, [])), (23, (25, 26, 1, 28, 0, 0, 0, [])), (26, (0, 27, 0, 0, 0, -1, 0, [])), (27, (53, 28, 0, 0, 0, 0, 0, [])), (28, (4, 29, 0, 0, 0, 0, 0, [])), (29, (50, 32, 225, 1, 0, 0, 0, [12])), (32, (2, 33, 2, 0, 0, 0, 0, [])), (33, (25, 36, 1, 44, 0, 0, 0, [])), (36, (4, 37, 0, 0, 0, 0, 0, [])), (37, (2, 38, 1, 0, 0, 0, 0, [])), (38, (50, 41, 179, 2, 1, 0, 0, [12])), (41, (26, 44, 0, 67, 0, 0, 0, [])), (44, (2, 45, 2, 0, 0, 0, 0, [])), (45, (0, 46, 0, 0, 0, 1, 0, [])), (46, (24, 49, 1, 58, 0, 0, 0, [])), (49, (4, 50, 0, 0, 0, 0, 0, [])), (50, (31, 53, 12, 32, 20, 0, 0, [])), (53, (2, 54, 1, 0, 0, 0, 0, [])), (54, (37, 55, 0, 0, 0, 0, 0, [])), (55, (26, 58, 0, 67, 0, 0, 0, [])), (58, (4, 59, 0, 0, 0, 0, 0, [])), (59, (31, 62, 12, 17, 20, 0, 0, [])), (62, (0, 64, 0, 0, 0, 41, 0, [])), (64, (2, 65, 1, 0, 0, 0, 0, [])), (65, (9, 66, 0, 0, 0, 0, 0, [])), (66, (37, 67, 0, 0, 0, 0, 0, [])), (67, (53, 68, 0, 0, 0, 0, 0, []))], [])
def tx_M_may : Tx := ([(0, (4, 1, 0, 0, 0, 0, 0, [])), (1, (0, 2, 0, 0, 0, 0, 0, [])), (2, (32, 5, 12, 0, 0, 0, 0, [])), (5, (4, 6, 0, 0, 0, 0, 0, [])), (6, (0, 7, 0, 0, 0, 0, 0, [])), (7, (33, 10, 12, 24, 0, 0, 0, [])), (10, (4, 11, 0, 0, 0, 0, 0, [])), (11, (50, 14, 183, 1, 0, 0, 0, [12])), (14, (4, 15, 0, 0, 0, 0, 0, [])), (15, (2, 16, 1, 0, 0, 0, 0, [])), (16, (50, 19, 181, 2, 1, 0, 0, [12])), (19, (5, 20, 2, 0, 0, 0, 0, [])), (20, (2, 21, 2, 0, 0, 0, 0, [])), (21, (25, 24, 2, 36, 0, 0, 0, [])), (24, (4, 25, 0, 0, 0, 0, 0, [])), (25, (2, 26, 2, 0, 0, 0, 0, [])), (26, (50, 29, 198, 2, 1, 0, 0, [12])), (29, (25, 32, 0, 36, 0, 0, 0, [])), (32, (0, 33, 0, 0, 0, 1, 0, [])), (33, (26, 36, 0, 37, 0, 0, 0, [])), (36, (0, 37, 0, 0, 0, 0, 0, [])), (37, (53, 38, 1, 0, 0, 0, 0, []))], [])
def tx_M_stride : Tx := ([(0, (4, 1, 0, 0, 0, 0, 0, [])), (1, (2, 2, 1, 0, 0, 0, 0, [])), (2, (50, 5, 200, 2, 1, 0, 0, [12])), (5, (25, 8, 1, 10, 0, 0, 0, [])), (8, (0, 9, 0, 0, 0, 0, 0, [])), (9, (53, 10, 1, 0, 0, 0, 0, [])), (10, (4, 11, 0, 0, 0, 0, 0, [])), (11, (31, 14, 12, 17, 20, 0, 0, [])), (14, (0, 15, 0, 0, 0, 1, 0, [])), (15, (4, 16, 0, 0, 0, 0, 0, [])), (16, (50, 19, 180, 1, 1, 0, 0, [12])), (19, (9, 20, 0, 0, 0, 0, 0, [])), (20, (2, 21, 1, 0, 0, 0, 0, [])), (21, (42, 22, 0, 0, 0, 0, 0, [])), (22, (4, 23, 0, 0, 0, 0, 0, [])), (23, (31, 26, 12, 17, 20, 0, 0, [])), (26, (0, 27, 0, 0, 0, 0, 0, [])), (27, (23, 28, 0, 0, 0, 0, 0, [])), (28, (37, 29, 0, 0, 0, 0, 0, [])), (29, (0, 30, 0, 0, 0, 1, 0, [])), (30, (9, 31, 0, 0, 0, 0, 0, [])), (31, (42, 32, 0, 0, 0, 0, 0, [])), (32, (0, 33, 0, 0, 0, 1, 0, [])), (33, (53, 34, 1, 0, 0, 0, 0, []))], [])
def tx_M_back : Tx := ([(0, (4, 1, 0, 0, 0, 0, 0, [])), (1, (0, 2, 0, 0, 0, 0, 0, [])), (2, (32, 5, 12, 0, 0, 0, 0, [])), (5, (4, 6, 0, 0, 0, 0, 0, [])), (6, (50, 9, 180, 1, 1, 0, 0, [12])), (9, (25, 12, 1, 14, 0, 0, 0, [])), (12, (0, 13, 0, 0, 0, 0, 0, [])), (13, (53, 14, 1, 0, 0, 0, 0, [])), (14, (4, 15, 0, 0, 0, 0, 0, [])), (15, (31, 18, 12, 17, 20, 0, 0, [])), (18, (0, 19, 0, 0, 0, 0, 0, [])), (19, (2, 20, 1, 0, 0, 0, 0, [])), (20, (25, 23, 0, 27, 0, 0, 0, [])), (23, (0, 24, 0, 0, 0, 0, 0, [])), (24, (26, 27, 0, 33, 0, 0, 0, [])), (27, (4, 28, 0, 0, 0, 0, 0, [])), (28, (50, 31, 180, 1, 1, 0, 0, [12])), (31, (0, 32, 0, 0, 0, 1, 0, [])), (32, (9, 33, 1, 0, 0, 0, 0, [])), (33, (42, 34, 0, 0, 0, 0, 0, [])), (34, (0, 35, 0, 0, 0, 1, 0, [])), (35, (53, 36, 1, 0, 0, 0, 0, []))], [])
def tx_M_taken : Tx := ([(0, (4, 1, 0, 0, 0, 0, 0, [])), (1, (0, 2, 0, 0, 0, 0, 0, [])), (2, (32, 5, 12, 0, 0, 0, 0, [])), (5, (2, 6, 1, 0, 0, 0, 0, [])), (6, (25, 9, 2, 28, 0, 0, 0, [])), (9, (2, 10, 1, 0, 0, 0, 0, [])), (10, (4, 11, 0, 0, 0, 0, 0, [])), (11, (50, 14, 180, 1, 1, 0, 0, [12])), (14, (24, 17, 3, 28, 0, 0, 0, [])), (17, (4, 18, 0, 0, 0, 0, 0, [])), (18, (31, 21, 12, 17, 20, 0, 0, [])), (21, (0, 22, 0, 0, 0, 1, 0, [])), (22, (2, 23, 1, 0, 0, 0, 0, [])), (23, (9, 24, 0, 0, 0, 0, 0, [])), (24, (37, 25, 0, 0, 0, 0, 0, [])), (25, (26, 28, 0, 29, 0, 0, 0, [])), (28, (0, 29, 0, 0, 0, -1, 0, [])), (29, (53, 30, 0, 0, 0, 0, 0, []))], [])
def tx_M_lawfulNow : Tx := ([(0, (4, 1, 0, 0, 0, 0, 0, [])), (1, (50, 4, 183, 1, 0, 0, 0, [12])), (4, (4, 5, 0, 0, 0, 0, 0, [])), (5, (29, 8, 12, 19, 0, 0, 0, [])), (8, (4, 9, 0, 0, 0, 0, 0, [])), (9, (50, 12, 176, 1, 1, 0, 0, [12])), (12, (24, 15, 3, 17, 0, 0, 0, [])), (15, (0, 16, 0, 0, 0, -1, 0, [])), (16, (53, 17, 0, 0, 0, 0, 0, [])), (17, (4, 18, 0, 0, 0, 0, 0, [])), (18, (50, 21, 180, 1, 1, 0, 0, [12])), (21, (5, 22, 1, 0, 0, 0, 0, [])), (22, (4, 23, 0, 0, 0, 0, 0, [])), (23, (31, 26, 12, 10, 20, 0, 0, [])), (26, (0, 27, 0, 0, 0, 2, 0, [])), (27, (37, 28, 0, 0, 0, 0, 0, [])), (28, (25, 31, 2, 49, 0, 0, 0, [])), (31, (4, 32, 0, 0, 0, 0, 0, [])), (32, (31, 35, 12, 10, 20, 0, 0, [])), (35, (0, 36, 0, 0, 0, 2, 0, [])), (36, (37, 37, 0, 0, 0, 0, 0, [])), (37, (2, 38, 1, 0, 0, 0, 0, [])), (38, (0, 39, 0, 0, 0, 1, 0, [])), (39, (9, 40, 0, 0, 0, 0, 0, [])), (40, (0, 41, 0, 0, 0, 2, 0, [])), (41, (11, 42, 0, 0, 0, 0, 0, [])), (42, (24, 45, 0, 49, 0, 0, 0, [])), (45, (0, 46, 0, 0, 0, 1, 0, [])), (46, (26, 49, 0, 64, 0, 0, 0, [])), (49, (2, 50, 1, 0, 0, 0, 0, [])), (50, (4, 51, 0, 0, 0, 0, 0, [])), (51, (31, 54, 12, 10, 20, 0, 0, [])), (54, (0, 55, 0, 0, 0, 3, 0, [])), (55, (37, 56, 0, 0, 0, 0, 0, [])), (56, (24, 59, 3, 63, 0, 0, 0, [])), (59, (0, 60, 0, 0, 0, 2, 0, [])), (60, (26, 63, 0, 64, 0, 0, 0, [])), (63, (0, 64, 0, 0, 0, 0, 0, [])), (64, (53, 65, 0, 0, 0, 0, 0, []))], [(49, [])])
def tx_M_lawful : Tx := ([(0, (4, 1, 0, 0, 0, 0, 0, [])), (1, (0, 2, 0, 0, 0, 0, 0, [])), (2, (32, 5, 12, 0, 0, 0, 0, [])), (5, (4, 6, 0, 0, 0, 0, 0, [])), (6, (50, 9, 204, 1, 1, 0, 0, [12])), (9, (53, 10, 0, 0, 0, 0, 0, []))], [])
def tx_M_many : Tx := ([(0, (4, 1, 0, 0, 0, 0, 0, [])), (1, (0, 2, 0, 0, 0, 0, 0, [])), (2, (32, 5, 12, 0, 0, 0, 0, [])), (5, (4, 6, 0, 0, 0, 0, 0, [])), (6, (0, 7, 0, 0, 0, 0, 0, [])), (7, (33, 10, 12, 24, 0, 0, 0, [])), (10, (4, 11, 0, 0, 0, 0, 0, [])), (11, (50, 14, 183, 1, 0, 0, 0, [12])), (14, (4, 15, 0, 0, 0, 0, 0, [])), (15, (0, 16, 0, 0, 0, -1, 0, [])), (16, (0, 17, 0, 0, 0, 0, 0, [])), (17, (50, 20, 194, 3, 0, 0, 0, [12])), (20, (4, 21, 0, 0, 0, 0, 0, [])), (21, (31, 24, 12, 23, 21, 0, 0, [])), (24, (4, 25, 0, 0, 0, 0, 0, [])), (25, (50, 28, 197, 1, 1, 0, 0, [12])), (28, (38, 29, 0, 0, 0, 0, 0, [])), (29, (54, 30, 0, 0, 0, 0, 0, []))], [])
def tx_M_manyOf : Tx := ([(0, (4, 1, 0, 0, 0, 0, 0, [])), (1, (0, 2, 0, 0, 0, 0, 0, [])), (2, (32, 5, 12, 0, 0, 0, 0, [])), (5, (2, 6, 1, 0, 0, 0, 0, [])), (6, (0, 7, 0, 0, 0, 0, 0, [])), (7, (0, 9, 0, 0, 0, 40, 0, [])), (9, (50, 12, 154, 3, 1, 0, 0, [])), (12, (25, 15, 1, 19, 0, 0, 0, [])), (15, (1, 18, 363, 0, 0, 0, -1, [])), (18, (54, 19, 0, 0, 0, 0, 0, [])), (19, (4, 20, 0, 0, 0, 0, 0, [])), (20, (0, 21, 0, 0, 0, 0, 0, [])), (21, (33, 24, 12, 24, 0, 0, 0, [])), (24, (4, 25, 0, 0, 0, 0, 0, [])), (25, (50, 28, 183, 1, 0, 0, 0, [12])), (28, (4, 29, 0, 0, 0, 0, 0, [])), (29, (2, 30, 1, 0, 0, 0, 0, [])), (30, (0, 31, 0, 0, 0, 0, 0, [])), (31, (50, 34, 194, 3, 0, 0, 0, [12])), (34, (4, 35, 0, 0, 0, 0, 0, [])), (35, (31, 38, 12, 23, 21, 0, 0, [])), (38, (4, 39, 0, 0, 0, 0, 0, [])), (39, (50, 42, 197, 1, 1, 0, 0, [12])), (42, (38, 43, 0, 0, 0, 0, 0, [])), (43, (54, 44, 0, 0, 0, 0, 0, []))], [])
def tx_M_rank0 : Tx := ([(0, (4, 1, 0, 0, 0, 0, 0, [])), (1, (0, 2, 0, 0, 0, 0, 0, [])), (2, (32, 5, 12, 0, 0, 0, 0, [])), (5, (4, 6, 0, 0, 0, 0, 0, [])), (6, (0, 7, 0, 0, 0, 0, 0, [])), (7, (33, 10, 12, 24, 0, 0, 0, [])), (10, (4, 11, 0, 0, 0, 0, 0, [])), (11, (50, 14, 204, 1, 1, 0, 0, [12])), (14, (25, 17, 0, 21, 0, 0, 0, [])), (17, (1, 20, 363, 0, 0, 0, -1, [])), (20, (54, 21, 0, 0, 0, 0, 0, [])), (21, (4, 22, 0, 0, 0, 0, 0, [])), (22, (0, 23, 0, 0, 0, -1, 0, [])), (23, (0, 24, 0, 0, 0, 0, 0, [])), (24, (50, 27, 194, 3, 0, 0, 0, [12])), (27, (1, 28, 0, 0, 0, 0, 0, [])), (28, (6, 29, 1, 0, 0, 0, 0, [])), (29, (4, 30, 0, 0, 0, 0, 0, [])), (30, (50, 33, 180, 1, 1, 0, 0, [12])), (33, (5, 34, 3, 0, 0, 0, 0, [])), (34, (0, 35, 0, 0, 0, 0, 0, [])), (35, (5, 37, 4, 0, 0, 0, 0, [])), (37, (2, 39, 4, 0, 0, 0, 0, [])), (39, (2, 40, 3, 0, 0, 0, 0, [])), (40, (24, 43, 3, 146, 0, 0, 0, [])), (43, (4, 44, 0, 0, 0, 0, 0, [])), (44, (31, 47, 12, 17, 20, 0, 0, [])), (47, (0, 48, 0, 0, 0, 0, 0, [])), (48, (2, 50, 4, 0, 0, 0, 0, [])), (50, (42, 51, 0, 0, 0, 0, 0, [])), (51, (4, 52, 0, 0, 0, 0, 0, [])), (52, (50, 55, 183, 1, 0, 0, 0, [12])), (55, (0, 56, 0, 0, 0, 0, 0, [])), (56, (5, 58, 5, 0, 0, 0, 0, [])), (58, (2, 60, 5, 0, 0, 0, 0, [])), (60, (4, 61, 0, 0, 0, 0, 0, [])), (61, (50, 64, 177, 1, 1, 0, 0, [12])), (64, (24, 67, 3, 140, 0, 0, 0, [])), (67, (3, 68, 1, 0, 0, 0, 0, [])), (68, (4, 69, 0, 0, 0, 0, 0, [])), (69, (2, 71, 5, 0, 0, 0, 0, [])), (71, (50, 74, 178, 2, 1, 0, 0, [12])), (74, (4, 75, 0, 0, 0, 0, 0, [])), (75, (31, 78, 12, 17, 20, 0, 0, [])), (78, (0, 79, 0, 0, 0, 1, 0, [])), (79, (2, 81, 4, 0, 0, 0, 0, [])), (81, (9, 82, 0, 0, 0, 0, 0, [])), (82, (37, 83, 0, 0, 0, 0, 0, [])), (83, (24, 86, 3, 131, 0, 0, 0, [])), (86, (4, 87, 0, 0, 0, 0, 0, [])), (87, (2, 89, 5, 0, 0, 0, 0, [])), (89, (50, 92, 198, 2, 1, 0, 0, [12])), (92, (25, 95, 0, 131, 0, 0, 0, [])), (95, (4, 96, 0, 0, 0, 0, 0, [])), (96, (31, 99, 12, 23, 21, 0, 0, [])), (99, (4, 100, 0, 0, 0, 0, 0, [])), (100, (4, 101, 0, 0, 0, 0, 0, [])), (101, (29, 104, 12, 19, 0, 0, 0, [])), (104, (4, 105, 0, 0, 0, 0, 0, [])), (105, (29, 108, 12, 20, 0, 0, 0, [])), (108, (4, 109, 0, 0, 0, 0, 0, [])), (109, (4, 110, 0, 0, 0, 0, 0, [])), (110, (29, 113, 12, 21, 0, 0, 0, [])), (113, (50, 116, 185, 2, 1, 0, 0, [12])), (116, (4, 117, 0, 0, 0, 0, 0, [])), (117, (29, 120, 12, 22, 0, 0, 0, [])), (120, (2, 122, 4, 0, 0, 0, 0, [])), (122, (2, 124, 5, 0, 0, 0, 0, [])), (124, (50, 127, 190, 7, 1, 0, 0, [12])), (127, (38, 128, 0, 0, 0, 0, 0, [])), (128, (26, 131, 0, 132, 0, 0, 0, [])), (131, (1, 132, 0, 0, 0, 0, 0, [])), (132, (13, 133, 0, 0, 0, 0, 0, [])), (133, (6, 134, 1, 0, 0, 0, 0, [])), (134, (8, 137, 5, 0, 0, 1, 0, [])), (137, (26, 140, 0, 58, 0, 0, 0, [])), (140, (8, 143, 4, 0, 0, 1, 0, [])), (143, (26, 146, 0, 37, 0, 0, 0, [])), (146, (4, 147, 0, 0, 0, 0, 0, [])), (147, (31, 150, 12, 17, 20, 0, 0, [])), (150, (0, 151, 0, 0, 0, 0, 0, [])), (151, (2, 152, 3, 0, 0, 0, 0, [])), (152, (42, 153, 0, 0, 0, 0, 0, [])), (153, (3, 154, 1, 0, 0, 0, 0, [])), (154, (54, 155, 0, 0, 0, 0, 0, []))], [(37, [2, 5]), (58, [2]), (67, [2])])
def tx_M_strideAt : Tx := ([(0, (3, 1, 1, 0, 0, 0, 0, [])), (1, (6, 3, 4, 0, 0, 0, 0, [])), (3, (4, 4, 0, 0, 0, 0, 0, [])), (4, (29, 7, 12, 19, 0, 0, 0, [])), (7, (5, 9, 6, 0, 0, 0, 0, [])), (9, (4, 10, 0, 0, 0, 0, 0, [])), (10, (29, 13, 12, 20, 0, 0, 0, [])), (13, (5, 15, 7, 0, 0, 0, 0, [])), (15, (4, 16, 0, 0, 0, 0, 0, [])), (16, (4, 17, 0, 0, 0, 0, 0, [])), (17, (29, 20, 12, 21, 0, 0, 0, [])), (20, (50, 23, 185, 2, 1, 0, 0, [12])), (23, (5, 25, 8, 0, 0, 0, 0, [])), (25, (4, 26, 0, 0, 0, 0, 0, [])), (26, (29, 29, 12, 22, 0, 0, 0, [])), (29, (5, 31, 9, 0, 0, 0, 0, [])), (31, (4, 32, 0, 0, 0, 0, 0, [])), (32, (50, 35, 180, 1, 1, 0, 0, [12])), (35, (5, 37, 10, 0, 0, 0, 0, [])), (37, (0, 38, 0, 0, 0, 0, 0, [])), (38, (5, 40, 11, 0, 0, 0, 0, [])), (40, (2, 42, 11, 0, 0, 0, 0, [])), (42, (2, 43, 3, 0, 0, 0, 0, [])), (43, (24, 46, 4, 239, 0, 0, 0, [])), (46, (2, 48, 6, 0, 0, 0, 0, [])), (48, (4, 49, 0, 0, 0, 0, 0, [])), (49, (50, 52, 176, 1, 1, 0, 0, [12])), (52, (24, 55, 1, 57, 0, 0, 0, [])), (55, (0, 56, 0, 0, 0, -1, 0, [])), (56, (53, 57, 0, 0, 0, 0, 0, [])), (57, (0, 58, 0, 0, 0, 0, 0, [])), (58, (5, 60, 12, 0, 0, 0, 0, [])), (60, (4, 61, 0, 0, 0, 0, 0, [])), (61, (2, 63, 6, 0, 0, 0, 0, [])), (63, (2, 65, 7, 0, 0, 0, 0, [])), (65, (2, 67, 8, 0, 0, 0, 0, [])), (67, (2, 69, 9, 0, 0, 0, 0, [])), (69, (2, 71, 10, 0, 0, 0, 0, [])), (71, (2, 73, 12, 0, 0, 0, 0, [])), (73, (50, 76, 189, 7, 1, 0, 0, [12])), (76, (25, 79, 0, 106, 0, 0, 0, [])), (79, (4, 80, 0, 0, 0, 0, 0, [])), (80, (31, 83, 12, 23, 21, 0, 0, [])), (83, (4, 84, 0, 0, 0, 0, 0, [])), (84, (2, 86, 6, 0, 0, 0, 0, [])), (86, (2, 88, 7, 0, 0, 0, 0, [])), (88, (2, 90, 8, 0, 0, 0, 0, [])), (90, (2, 92, 9, 0, 0, 0, 0, [])), (92, (2, 94, 10, 0, 0, 0, 0, [])), (94, (2, 96, 12, 0, 0, 0, 0, [])), (96, (50, 99, 190, 7, 1, 0, 0, [12])), (99, (38, 100, 0, 0, 0, 0, 0, [])), (100, (3, 102, 4, 0, 0, 0, 0, [])), (102, (21, 103, 0, 0, 0, 0, 0, [])), (103, (25, 106, 4, 161, 0, 0, 0, [])), (106, (3, 108, 4, 0, 0, 0, 0, [])), (108, (4, 109, 0, 0, 0, 0, 0, [])), (109, (2, 111, 6, 0, 0, 0, 0, [])), (111, (2, 113, 7, 0, 0, 0, 0, [])), (113, (2, 115, 8, 0, 0, 0, 0, [])), (115, (2, 117, 9, 0, 0, 0, 0, [])), (117, (2, 119, 10, 0, 0, 0, 0, [])), (119, (2, 121, 12, 0, 0, 0, 0, [])), (121, (50, 124, 189, 7, 1, 0, 0, [12])), (124, (25, 127, 0, 151, 0, 0, 0, [])), (127, (4, 128, 0, 0, 0, 0, 0, [])), (128, (31, 131, 12, 23, 21, 0, 0, [])), (131, (4, 132, 0, 0, 0, 0, 0, [])), (132, (2, 134, 6, 0, 0, 0, 0, [])), (134, (2, 136, 7, 0, 0, 0, 0, [])), (136, (2, 138, 8, 0, 0, 0, 0, [])), (138, (2, 140, 9, 0, 0, 0, 0, [])), (140, (2, 142, 10, 0, 0, 0, 0, [])), (142, (2, 144, 12, 0, 0, 0, 0, [])), (144, (50, 147, 190, 7, 1, 0, 0, [12])), (147, (38, 148, 0, 0, 0, 0, 0, [])), (148, (26, 151, 0, 152, 0, 0, 0, [])), (151, (1, 152, 0, 0, 0, 0, 0, [])), (152, (13, 153, 1, 0, 0, 0, 0, [])), (153, (6, 155, 4, 0, 0, 0, 0, [])), (155, (8, 158, 12, 0, 0, 1, 0, [])), (158, (26, 161, 0, 60, 0, 0, 0, [])), (161, (4, 162, 0, 0, 0, 0, 0, [])), (162, (2, 164, 12, 0, 0, 0, 0, [])), (164, (50, 167, 178, 2, 1, 0, 0, [12])), (167, (5, 169, 13, 0, 0, 0, 0, [])), (169, (2, 171, 6, 0, 0, 0, 0, [])), (171, (2, 173, 13, 0, 0, 0, 0, [])), (173, (9, 174, 0, 0, 0, 0, 0, [])), (174, (5, 176, 6, 0, 0, 0, 0, [])), (176, (2, 178, 12, 0, 0, 0, 0, [])), (178, (0, 179, 0, 0, 0, 1, 0, [])), (179, (9, 180, 0, 0, 0, 0, 0, [])), (180, (5, 182, 7, 0, 0, 0, 0, [])), (182, (2, 184, 8, 0, 0, 0, 0, [])), (184, (4, 185, 0, 0, 0, 0, 0, [])), (185, (2, 187, 6, 0, 0, 0, 0, [])), (187, (50, 190, 179, 2, 1, 0, 0, [12])), (190, (0, 191, 0, 0, 0, 2, 0, [])), (191, (24, 194, 1, 207, 0, 0, 0, [])), (194, (4, 195, 0, 0, 0, 0, 0, [])), (195, (31, 198, 12, 10, 20, 0, 0, [])), (198, (0, 199, 0, 0, 0, 1, 0, [])), (199, (37, 200, 0, 0, 0, 0, 0, [])), (200, (25, 203, 2, 207, 0, 0, 0, [])), (203, (0, 204, 0, 0, 0, 1, 0, [])), (204, (26, 207, 0, 208, 0, 0, 0, [])), (207, (0, 208, 0, 0, 0, 0, 0, [])), (208, (9, 209, 0, 0, 0, 0, 0, [])), (209, (5, 211, 8, 0, 0, 0, 0, [])), (211, (2, 213, 9, 0, 0, 0, 0, [])), (213, (4, 214, 0, 0, 0, 0, 0, [])), (214, (2, 216, 13, 0, 0, 0, 0, [])), (216, (50, 219, 182, 2, 1, 0, 0, [12])), (219, (25, 222, 0, 226, 0, 0, 0, [])), (222, (0, 223, 0, 0, 0, 1, 0, [])), (223, (26, 226, 0, 227, 0, 0, 0, [])), (226, (0, 227, 0, 0, 0, 0, 0, [])), (227, (9, 228, 0, 0, 0, 0, 0, [])), (228, (5, 230, 9, 0, 0, 0, 0, [])), (230, (8, 233, 10, 0, 0, 1, 0, [])), (233, (8, 236, 11, 0, 0, 1, 0, [])), (236, (26, 239, 0, 40, 0, 0, 0, [])), (239, (4, 240, 0, 0, 0, 0, 0, [])), (240, (2, 242, 7, 0, 0, 0, 0, [])), (242, (0, 243, 0, 0, 0, 1, 0, [])), (243, (9, 244, 1, 0, 0, 0, 0, [])), (244, (50, 247, 178, 2, 1, 0, 0, [12])), (247, (53, 248, 0, 0, 0, 0, 0, []))], [(40, [1, 2, 5, 12, 13]), (60, [1, 2, 5, 13]), (106, [1, 2, 5, 13]), (208, [1, 2, 5, 8, 12])])
def tx_M_nth : Tx := ([(0, (4, 1, 0, 0, 0, 0, 0, [])), (1, (0, 2, 0, 0, 0, 0, 0, [])), (2, (32, 5, 12, 0, 0, 0, 0, [])), (5, (4, 6, 0, 0, 0, 0, 0, [])), (6, (0, 7, 0, 0, 0, 0, 0, [])), (7, (33, 10, 12, 24, 0, 0, 0, [])), (10, (4, 11, 0, 0, 0, 0, 0, [])), (11, (0, 12, 0, 0, 0, -1, 0, [])), (12, (0, 13, 0, 0, 0, 0, 0, [])), (13, (50, 16, 194, 3, 0, 0, 0, [12])), (16, (3, 17, 1, 0, 0, 0, 0, [])), (17, (1, 18, 0, 0, 0, 0, 0, [])), (18, (21, 19, 0, 0, 0, 0, 0, [])), (19, (25, 22, 2, 44, 0, 0, 0, [])), (22, (3, 23, 1, 0, 0, 0, 0, [])), (23, (4, 24, 0, 0, 0, 0, 0, [])), (24, (31, 27, 12, 23, 21, 0, 0, [])), (27, (0, 28, 0, 0, 0, 0, 0, [])), (28, (0, 29, 0, 0, 0, 0, 0, [])), (29, (0, 30, 0, 0, 0, 0, 0, [])), (30, (0, 31, 0, 0, 0, 0, 0, [])), (31, (0, 32, 0, 0, 0, 0, 0, [])), (32, (50, 35, 184, 5, 1, 0, 0, [])), (35, (38, 36, 0, 0, 0, 0, 0, [])), (36, (21, 37, 0, 0, 0, 0, 0, [])), (37, (25, 40, 3, 44, 0, 0, 0, [])), (40, (2, 41, 3, 0, 0, 0, 0, [])), (41, (25, 44, 3, 46, 0, 0, 0, [])), (44, (0, 45, 0, 0, 0, -1, 0, [])), (45, (53, 46, 0, 0, 0, 0, 0, [])), (46, (4, 47, 0, 0, 0, 0, 0, [])), (47, (50, 50, 180, 1, 1, 0, 0, [12])), (50, (5, 52, 4, 0, 0, 0, 0, [])), (52, (4, 53, 0, 0, 0, 0, 0, [])), (53, (31, 56, 12, 17, 20, 0, 0, [])), (56, (0, 57, 0, 0, 0, 0, 0, [])), (57, (0, 58, 0, 0, 0, 0, 0, [])), (58, (42, 59, 0, 0, 0, 0, 0, [])), (59, (4, 60, 0, 0, 0, 0, 0, [])), (60, (50, 63, 183, 1, 0, 0, 0, [12])), (63, (4, 64, 0, 0, 0, 0, 0, [])), (64, (3, 65, 1, 0, 0, 0, 0, [])), (65, (2, 66, 3, 0, 0, 0, 0, [])), (66, (50, 69, 209, 3, 1, 0, 0, [12])), (69, (5, 71, 5, 0, 0, 0, 0, [])), (71, (4, 72, 0, 0, 0, 0, 0, [])), (72, (31, 75, 12, 17, 20, 0, 0, [])), (75, (0, 76, 0, 0, 0, 0, 0, [])), (76, (2, 78, 4, 0, 0, 0, 0, [])), (78, (42, 79, 0, 0, 0, 0, 0, [])), (79, (2, 81, 5, 0, 0, 0, 0, [])), (81, (53, 82, 0, 0, 0, 0, 0, []))], [])
def tx_M_multiplies : Tx := ([(0, (0, 1, 0, 0, 0, 0, 0, [])), (1, (5, 3, 4, 0, 0, 0, 0, [])), (3, (2, 5, 4, 0, 0, 0, 0, [])), (5, (0, 7, 0, 0, 0, 12, 0, [])), (7, (24, 10, 3, 95, 0, 0, 0, [])), (10, (0, 11, 0, 0, 0, 0, 0, [])), (11, (5, 13, 5, 0, 0, 0, 0, [])), (13, (2, 15, 5, 0, 0, 0, 0, [])), (15, (0, 17, 0, 0, 0, 12, 0, [])), (17, (24, 20, 3, 89, 0, 0, 0, [])), (20, (1, 21, 0, 0, 0, 0, 0, [])), (21, (6, 23, 6, 0, 0, 0, 0, [])), (23, (0, 24, 0, 0, 0, 0, 0, [])), (24, (5, 26, 8, 0, 0, 0, 0, [])), (26, (2, 28, 8, 0, 0, 0, 0, [])), (28, (0, 30, 0, 0, 0, 12, 0, [])), (30, (24, 33, 3, 65, 0, 0, 0, [])), (33, (3, 35, 6, 0, 0, 0, 0, [])), (35, (4, 36, 1, 0, 0, 0, 0, [])), (36, (0, 38, 0, 0, 0, 12, 0, [])), (38, (2, 40, 4, 0, 0, 0, 0, [])), (40, (9, 41, 2, 0, 0, 0, 0, [])), (41, (2, 43, 8, 0, 0, 0, 0, [])), (43, (9, 44, 0, 0, 0, 0, 0, [])), (44, (38, 45, 0, 0, 0, 0, 0, [])), (45, (4, 46, 2, 0, 0, 0, 0, [])), (46, (0, 48, 0, 0, 0, 12, 0, [])), (48, (2, 50, 8, 0, 0, 0, 0, [])), (50, (9, 51, 2, 0, 0, 0, 0, [])), (51, (2, 53, 5, 0, 0, 0, 0, [])), (53, (9, 54, 0, 0, 0, 0, 0, [])), (54, (38, 55, 0, 0, 0, 0, 0, [])), (55, (13, 56, 2, 0, 0, 0, 0, [])), (56, (13, 57, 0, 0, 0, 0, 0, [])), (57, (6, 59, 6, 0, 0, 0, 0, [])), (59, (8, 62, 8, 0, 0, 1, 0, [])), (62, (26, 65, 0, 26, 0, 0, 0, [])), (65, (4, 66, 0, 0, 0, 0, 0, [])), (66, (31, 69, 12, 27, 21, 0, 0, [])), (69, (0, 71, 0, 0, 0, 12, 0, [])), (71, (2, 73, 4, 0, 0, 0, 0, [])), (73, (9, 74, 2, 0, 0, 0, 0, [])), (74, (2, 76, 5, 0, 0, 0, 0, [])), (76, (9, 77, 0, 0, 0, 0, 0, [])), (77, (3, 79, 6, 0, 0, 0, 0, [])), (79, (2, 80, 3, 0, 0, 0, 0, [])), (80, (18, 81, 0, 0, 0, 0, 0, [])), (81, (17, 82, 0, 0, 0, 0, 0, [])), (82, (43, 83, 0, 0, 0, 0, 0, [])), (83, (8, 86, 5, 0, 0, 1, 0, [])), (86, (26, 89, 0, 13, 0, 0, 0, [])), (89, (8, 92, 4, 0, 0, 1, 0, [])), (92, (26, 95, 0, 3, 0, 0, 0, [])), (95, (0, 96, 0, 0, 0, 0, 0, [])), (96, (5, 98, 4, 0, 0, 0, 0, [])), (98, (2, 100, 4, 0, 0, 0, 0, [])), (100, (0, 103, 0, 0, 0, 144, 0, [])), (103, (24, 106, 3, 123, 0, 0, 0, [])), (106, (4, 107, 1, 0, 0, 0, 0, [])), (107, (2, 109, 4, 0, 0, 0, 0, [])), (109, (4, 110, 0, 0, 0, 0, 0, [])), (110, (31, 113, 12, 27, 21, 0, 0, [])), (113, (2, 115, 4, 0, 0, 0, 0, [])), (115, (38, 116, 0, 0, 0, 0, 0, [])), (116, (43, 117, 0, 0, 0, 0, 0, [])), (117, (8, 120, 4, 0, 0, 1, 0, [])), (120, (26, 123, 0, 98, 0, 0, 0, [])), (123, (55, 124, 0, 0, 0, 0, 0, []))], [(3, [5, 6, 7, 8]), (13, [6, 7, 8]), (26, [7]), (98, [2, 3, 5, 6, 7, 8])])
def tx_M_plain : Tx := ([(0, (4, 1, 0, 0, 0, 0, 0, [])), (1, (2, 2, 1, 0, 0, 0, 0, [])), (2, (0, 3, 0, 0, 0, 0, 0, [])), (3, (0, 6, 369, 0, 0, 999999999, 0, [])), (6, (50, 9, 154, 3, 1, 0, 0, [])), (9, (25, 12, 0, 27, 0, 0, 0, [])), (12, (2, 13, 2, 0, 0, 0, 0, [])), (13, (0, 14, 0, 0, 0, 1, 0, [])), (14, (0, 17, 0, 0, 0, 9999, 0, [])), (17, (50, 20, 154, 3, 1, 0, 0, [])), (20, (25, 23, 0, 27, 0, 0, 0, [])), (23, (0, 24, 0, 0, 0, 0, 0, [])), (24, (26, 27, 0, 28, 0, 0, 0, [])), (27, (0, 28, 0, 0, 0, 1, 0, [])), (28, (32, 31, 12, 0, 0, 0, 0, [])), (31, (4, 32, 0, 0, 0, 0, 0, [])), (32, (29, 35, 12, 0, 0, 0, 0, [])), (35, (25, 38, 5, 40, 0, 0, 0, [])), (38, (0, 39, 0, 0, 0, 0, 0, [])), (39, (53, 40, 0, 0, 0, 0, 0, [])), (40, (0, 41, 0, 0, 0, 0, 0, [])), (41, (5, 42, 3, 0, 0, 0, 0, [])), (42, (2, 43, 3, 0, 0, 0, 0, [])), (43, (0, 46, 0, 0, 0, 144, 0, [])), (46, (24, 49, 3, 109, 0, 0, 0, [])), (49, (4, 50, 0, 0, 0, 0, 0, [])), (50, (31, 53, 12, 26, 21, 0, 0, [])), (53, (2, 54, 3, 0, 0, 0, 0, [])), (54, (2, 55, 3, 0, 0, 0, 0, [])), (55, (0, 57, 0, 0, 0, 13, 0, [])), (57, (11, 58, 0, 0, 0, 0, 0, [])), (58, (25, 61, 1, 68, 0, 0, 0, [])), (61, (0, 62, 0, 0, 0, 1, 0, [])), (62, (2, 63, 2, 0, 0, 0, 0, [])), (63, (11, 64, 0, 0, 0, 0, 0, [])), (64, (18, 65, 0, 0, 0, 0, 0, [])), (65, (26, 68, 0, 69, 0, 0, 0, [])), (68, (1, 69, 0, 0, 0, 0, 0, [])), (69, (43, 70, 0, 0, 0, 0, 0, [])), (70, (4, 71, 0, 0, 0, 0, 0, [])), (71, (31, 74, 12, 25, 21, 0, 0, [])), (74, (2, 75, 3, 0, 0, 0, 0, [])), (75, (2, 76, 3, 0, 0, 0, 0, [])), (76, (0, 78, 0, 0, 0, 12, 0, [])), (78, (24, 81, 2, 101, 0, 0, 0, [])), (81, (2, 82, 3, 0, 0, 0, 0, [])), (82, (0, 84, 0, 0, 0, 12, 0, [])), (84, (11, 85, 0, 0, 0, 0, 0, [])), (85, (2, 86, 3, 0, 0, 0, 0, [])), (86, (0, 88, 0, 0, 0, 12, 0, [])), (88, (10, 89, 0, 0, 0, 0, 0, [])), (89, (0, 90, 0, 0, 0, 1, 0, [])), (90, (9, 91, 1, 0, 0, 0, 0, [])), (91, (24, 94, 1, 101, 0, 0, 0, [])), (94, (0, 95, 0, 0, 0, 1, 0, [])), (95, (2, 96, 2, 0, 0, 0, 0, [])), (96, (11, 97, 0, 0, 0, 0, 0, [])), (97, (18, 98, 0, 0, 0, 0, 0, [])), (98, (26, 101, 0, 102, 0, 0, 0, [])), (101, (1, 102, 0, 0, 0, 0, 0, [])), (102, (43, 103, 0, 0, 0, 0, 0, [])), (103, (8, 106, 3, 0, 0, 1, 0, [])), (106, (26, 109, 0, 42, 0, 0, 0, [])), (109, (0, 110, 0, 0, 0, 0, 0, [])), (110, (5, 111, 3, 0, 0, 0, 0, [])), (111, (2, 112, 3, 0, 0, 0, 0, [])), (112, (4, 113, 0, 0, 0, 0, 0, [])), (113, (50, 116, 177, 1, 1, 0, 0, [12])), (116, (24, 119, 3, 141, 0, 0, 0, [])), (119, (4, 120, 0, 0, 0, 0, 0, [])), (120, (31, 123, 12, 25, 21, 0, 0, [])), (123, (4, 124, 0, 0, 0, 0, 0, [])), (124, (2, 125, 3, 0, 0, 0, 0, [])), (125, (50, 128, 178, 2, 1, 0, 0, [12])), (128, (0, 129, 0, 0, 0, 1, 0, [])), (129, (9, 130, 1, 0, 0, 0, 0, [])), (130, (0, 131, 0, 0, 0, 1, 0, [])), (131, (2, 132, 2, 0, 0, 0, 0, [])), (132, (11, 133, 0, 0, 0, 0, 0, [])), (133, (18, 134, 0, 0, 0, 0, 0, [])), (134, (43, 135, 0, 0, 0, 0, 0, [])), (135, (8, 138, 3, 0, 0, 1, 0, [])), (138, (26, 141, 0, 111, 0, 0, 0, [])), (141, (2, 142, 1, 0, 0, 0, 0, [])), (142, (5, 143, 3, 0, 0, 0, 0, [])), (143, (2, 144, 3, 0, 0, 0, 0, [])), (144, (25, 147, 5, 183, 0, 0, 0, [])), (147, (2, 148, 3, 0, 0, 0, 0, [])), (148, (0, 149, 0, 0, 0, 2, 0, [])), (149, (11, 150, 0, 0, 0, 0, 0, [])), (150, (0, 151, 0, 0, 0, 1, 0, [])), (151, (24, 154, 1, 167, 0, 0, 0, [])), (154, (4, 155, 0, 0, 0, 0, 0, [])), (155, (4, 156, 0, 0, 0, 0, 0, [])), (156, (31, 159, 12, 26, 21, 0, 0, [])), (159, (4, 160, 0, 0, 0, 0, 0, [])), (160, (31, 163, 12, 25, 21, 0, 0, [])), (163, (2, 164, 2, 0, 0, 0, 0, [])), (164, (50, 167, 211, 4, 0, 0, 0, [12])), (167, (2, 168, 3, 0, 0, 0, 0, [])), (168, (0, 169, 0, 0, 0, 2, 0, [])), (169, (10, 170, 0, 0, 0, 0, 0, [])), (170, (5, 171, 3, 0, 0, 0, 0, [])), (171, (2, 172, 3, 0, 0, 0, 0, [])), (172, (25, 175, 5, 143, 0, 0, 0, [])), (175, (4, 176, 0, 0, 0, 0, 0, [])), (176, (2, 177, 2, 0, 0, 0, 0, [])), (177, (50, 180, 213, 2, 0, 0, 0, [12])), (180, (26, 183, 0, 143, 0, 0, 0, [])), (183, (4, 184, 0, 0, 0, 0, 0, [])), (184, (31, 187, 12, 26, 21, 0, 0, [])), (187, (0, 188, 0, 0, 0, 0, 0, [])), (188, (38, 189, 0, 0, 0, 0, 0, [])), (189, (19, 190, 0, 0, 0, 0, 0, [])), (190, (53, 191, 0, 0, 0, 0, 0, []))], [(28, [3]), (42, []), (69, []), (111, []), (143, [1]), (167, [1])])
def tx_M_squares : Tx := ([(0, (0, 1, 0, 0, 0, 0, 0, [])), (1, (5, 2, 2, 0, 0, 0, 0, [])), (2, (2, 3, 2, 0, 0, 0, 0, [])), (3, (0, 6, 0, 0, 0, 144, 0, [])), (6, (24, 9, 3, 27, 0, 0, 0, [])), (9, (4, 10, 0, 0, 0, 0, 0, [])), (10, (31, 13, 12, 28, 21, 0, 0, [])), (13, (2, 14, 2, 0, 0, 0, 0, [])), (14, (4, 15, 0, 0, 0, 0, 0, [])), (15, (31, 18, 12, 25, 21, 0, 0, [])), (18, (2, 19, 2, 0, 0, 0, 0, [])), (19, (38, 20, 0, 0, 0, 0, 0, [])), (20, (43, 21, 0, 0, 0, 0, 0, [])), (21, (8, 24, 2, 0, 0, 1, 0, [])), (24, (26, 27, 0, 2, 0, 0, 0, [])), (27, (4, 28, 0, 0, 0, 0, 0, [])), (28, (4, 29, 0, 0, 0, 0, 0, [])), (29, (31, 32, 12, 25, 21, 0, 0, [])), (32, (4, 33, 0, 0, 0, 0, 0, [])), (33, (31, 36, 12, 28, 21, 0, 0, [])), (36, (2, 37, 1, 0, 0, 0, 0, [])), (37, (50, 40, 211, 4, 0, 0, 0, [12])), (40, (55, 41, 0, 0, 0, 0, 0, []))], [(2, [])])
def tx_M_weightAt : Tx := ([(0, (4, 1, 0, 0, 0, 0, 0, [])), (1, (2, 2, 1, 0, 0, 0, 0, [])), (2, (2, 3, 2, 0, 0, 0, 0, [])), (3, (2, 4, 3, 0, 0, 0, 0, [])), (4, (2, 6, 4, 0, 0, 0, 0, [])), (6, (2, 8, 5, 0, 0, 0, 0, [])), (8, (2, 10, 6, 0, 0, 0, 0, [])), (10, (50, 13, 189, 7, 1, 0, 0, [12])), (13, (25, 16, 1, 18, 0, 0, 0, [])), (16, (0, 17, 0, 0, 0, 0, 0, [])), (17, (53, 18, 0, 0, 0, 0, 0, [])), (18, (0, 19, 0, 0, 0, 1, 0, [])), (19, (5, 21, 7, 0, 0, 0, 0, [])), (21, (4, 22, 0, 0, 0, 0, 0, [])), (22, (31, 25, 12, 10, 20, 0, 0, [])), (25, (0, 27, 0, 0, 0, 7, 0, [])), (27, (37, 28, 0, 0, 0, 0, 0, [])), (28, (25, 31, 2, 92, 0, 0, 0, [])), (31, (4, 32, 0, 0, 0, 0, 0, [])), (32, (31, 35, 12, 15, 20, 0, 0, [])), (35, (0, 36, 0, 0, 0, 0, 0, [])), (36, (4, 37, 0, 0, 0, 0, 0, [])), (37, (2, 39, 6, 0, 0, 0, 0, [])), (39, (50, 42, 178, 2, 1, 0, 0, [12])), (42, (42, 43, 0, 0, 0, 0, 0, [])), (43, (4, 44, 0, 0, 0, 0, 0, [])), (44, (31, 47, 12, 15, 20, 0, 0, [])), (47, (0, 48, 0, 0, 0, 1, 0, [])), (48, (2, 49, 2, 0, 0, 0, 0, [])), (49, (25, 52, 1, 56, 0, 0, 0, [])), (52, (0, 53, 0, 0, 0, 0, 0, [])), (53, (26, 56, 0, 63, 0, 0, 0, [])), (56, (4, 57, 0, 0, 0, 0, 0, [])), (57, (2, 58, 2, 0, 0, 0, 0, [])), (58, (0, 59, 0, 0, 0, 1, 0, [])), (59, (9, 60, 1, 0, 0, 0, 0, [])), (60, (50, 63, 178, 2, 1, 0, 0, [12])), (63, (42, 64, 0, 0, 0, 0, 0, [])), (64, (4, 65, 0, 0, 0, 0, 0, [])), (65, (31, 68, 12, 15, 20, 0, 0, [])), (68, (0, 69, 0, 0, 0, 2, 0, [])), (69, (2, 70, 1, 0, 0, 0, 0, [])), (70, (42, 71, 0, 0, 0, 0, 0, [])), (71, (4, 72, 0, 0, 0, 0, 0, [])), (72, (31, 75, 12, 15, 20, 0, 0, [])), (75, (0, 76, 0, 0, 0, 3, 0, [])), (76, (2, 78, 5, 0, 0, 0, 0, [])), (78, (42, 79, 0, 0, 0, 0, 0, [])), (79, (4, 80, 0, 0, 0, 0, 0, [])), (80, (4, 81, 0, 0, 0, 0, 0, [])), (81, (31, 84, 12, 10, 20, 0, 0, [])), (84, (0, 86, 0, 0, 0, 7, 0, [])), (86, (37, 87, 0, 0, 0, 0, 0, [])), (87, (50, 90, 174, 2, 1, 0, 0, [12])), (90, (5, 92, 7, 0, 0, 0, 0, [])), (92, (2, 94, 7, 0, 0, 0, 0, [])), (94, (25, 97, 3, 101, 0, 0, 0, [])), (97, (0, 98, 0, 0, 0, 0, 0, [])), (98, (26, 101, 0, 115, 0, 0, 0, [])), (101, (2, 103, 7, 0, 0, 0, 0, [])), (103, (0, 105, 0, 0, 0, 9, 0, [])), (105, (24, 108, 5, 113, 0, 0, 0, [])), (108, (0, 110, 0, 0, 0, 9, 0, [])), (110, (26, 113, 0, 115, 0, 0, 0, [])), (113, (2, 115, 7, 0, 0, 0, 0, [])), (115, (53, 116, 0, 0, 0, 0, 0, []))], [(63, [2, 3, 4, 6, 7]), (92, [0, 1, 2, 3, 4, 5, 6])])
def tx_M_goesCrowd : Tx := ([(0, (0, 1, 0, 0, 0, 0, 0, [])), (1, (5, 2, 3, 0, 0, 0, 0, [])), (2, (2, 3, 3, 0, 0, 0, 0, [])), (3, (4, 4, 0, 0, 0, 0, 0, [])), (4, (31, 7, 12, 23, 21, 0, 0, [])), (7, (36, 8, 0, 0, 0, 0, 0, [])), (8, (24, 11, 3, 24, 0, 0, 0, [])), (11, (4, 12, 0, 0, 0, 0, 0, [])), (12, (31, 15, 12, 23, 21, 0, 0, [])), (15, (2, 16, 3, 0, 0, 0, 0, [])), (16, (1, 17, 0, 0, 0, 0, 0, [])), (17, (43, 18, 0, 0, 0, 0, 0, [])), (18, (8, 21, 3, 0, 0, 1, 0, [])), (21, (26, 24, 0, 2, 0, 0, 0, [])), (24, (0, 25, 0, 0, 0, 0, 0, [])), (25, (5, 26, 3, 0, 0, 0, 0, [])), (26, (2, 27, 3, 0, 0, 0, 0, [])), (27, (0, 29, 0, 0, 0, 40, 0, [])), (29, (24, 32, 4, 45, 0, 0, 0, [])), (32, (4, 33, 0, 0, 0, 0, 0, [])), (33, (31, 36, 12, 29, 21, 0, 0, [])), (36, (2, 37, 3, 0, 0, 0, 0, [])), (37, (1, 38, 0, 0, 0, 0, 0, [])), (38, (43, 39, 0, 0, 0, 0, 0, [])), (39, (8, 42, 3, 0, 0, 1, 0, [])), (42, (26, 45, 0, 26, 0, 0, 0, [])), (45, (4, 46, 0, 0, 0, 0, 0, [])), (46, (1, 47, 0, 0, 0, 0, 0, [])), (47, (34, 50, 12, 30, 0, 0, 0, [])), (50, (4, 51, 0, 0, 0, 0, 0, [])), (51, (31, 54, 12, 29, 21, 0, 0, [])), (54, (0, 55, 0, 0, 0, 0, 0, [])), (55, (3, 56, 1, 0, 0, 0, 0, [])), (56, (43, 57, 0, 0, 0, 0, 0, [])), (57, (4, 58, 0, 0, 0, 0, 0, [])), (58, (31, 61, 12, 23, 21, 0, 0, [])), (61, (0, 62, 0, 0, 0, 0, 0, [])), (62, (0, 63, 0, 0, 0, 0, 0, [])), (63, (0, 64, 0, 0, 0, 0, 0, [])), (64, (0, 65, 0, 0, 0, 0, 0, [])), (65, (0, 66, 0, 0, 0, 0, 0, [])), (66, (50, 69, 184, 5, 1, 0, 0, [])), (69, (3, 70, 1, 0, 0, 0, 0, [])), (70, (43, 71, 0, 0, 0, 0, 0, [])), (71, (0, 72, 0, 0, 0, 0, 0, [])), (72, (5, 73, 3, 0, 0, 0, 0, [])), (73, (2, 74, 3, 0, 0, 0, 0, [])), (74, (4, 75, 0, 0, 0, 0, 0, [])), (75, (50, 78, 176, 1, 1, 0, 0, [12])), (78, (24, 81, 3, 191, 0, 0, 0, [])), (81, (0, 82, 0, 0, 0, 0, 0, [])), (82, (5, 84, 4, 0, 0, 0, 0, [])), (84, (2, 86, 4, 0, 0, 0, 0, [])), (86, (4, 87, 0, 0, 0, 0, 0, [])), (87, (50, 90, 177, 1, 1, 0, 0, [12])), (90, (24, 93, 4, 185, 0, 0, 0, [])), (93, (0, 94, 0, 0, 0, 0, 0, [])), (94, (5, 96, 5, 0, 0, 0, 0, [])), (96, (2, 98, 5, 0, 0, 0, 0, [])), (98, (4, 99, 0, 0, 0, 0, 0, [])), (99, (50, 102, 191, 1, 1, 0, 0, [12])), (102, (24, 105, 4, 179, 0, 0, 0, [])), (105, (0, 106, 0, 0, 0, 0, 0, [])), (106, (5, 108, 6, 0, 0, 0, 0, [])), (108, (2, 110, 6, 0, 0, 0, 0, [])), (110, (4, 111, 0, 0, 0, 0, 0, [])), (111, (50, 114, 192, 1, 1, 0, 0, [12])), (114, (24, 117, 4, 173, 0, 0, 0, [])), (117, (0, 118, 0, 0, 0, 0, 0, [])), (118, (5, 120, 7, 0, 0, 0, 0, [])), (120, (2, 122, 7, 0, 0, 0, 0, [])), (122, (2, 123, 3, 0, 0, 0, 0, [])), (123, (24, 126, 4, 167, 0, 0, 0, [])), (126, (4, 127, 0, 0, 0, 0, 0, [])), (127, (31, 130, 12, 23, 21, 0, 0, [])), (130, (2, 131, 3, 0, 0, 0, 0, [])), (131, (2, 133, 4, 0, 0, 0, 0, [])), (133, (2, 135, 5, 0, 0, 0, 0, [])), (135, (2, 137, 6, 0, 0, 0, 0, [])), (137, (2, 139, 7, 0, 0, 0, 0, [])), (139, (50, 142, 184, 5, 1, 0, 0, [])), (142, (38, 143, 0, 0, 0, 0, 0, [])), (143, (1, 144, 0, 0, 0, 0, 0, [])), (144, (21, 145, 0, 0, 0, 0, 0, [])), (145, (25, 148, 5, 161, 0, 0, 0, [])), (148, (4, 149, 0, 0, 0, 0, 0, [])), (149, (2, 150, 3, 0, 0, 0, 0, [])), (150, (2, 152, 4, 0, 0, 0, 0, [])), (152, (2, 154, 5, 0, 0, 0, 0, [])), (154, (2, 156, 6, 0, 0, 0, 0, [])), (156, (2, 158, 7, 0, 0, 0, 0, [])), (158, (50, 161, 216, 6, 0, 0, 0, [12])), (161, (8, 164, 7, 0, 0, 1, 0, [])), (164, (26, 167, 0, 120, 0, 0, 0, [])), (167, (8, 170, 6, 0, 0, 1, 0, [])), (170, (26, 173, 0, 108, 0, 0, 0, [])), (173, (8, 176, 5, 0, 0, 1, 0, [])), (176, (26, 179, 0, 96, 0, 0, 0, [])), (179, (8, 182, 4, 0, 0, 1, 0, [])), (182, (26, 185, 0, 84, 0, 0, 0, [])), (185, (8, 188, 3, 0, 0, 1, 0, [])), (188, (26, 191, 0, 73, 0, 0, 0, [])), (191, (55, 192, 0, 0, 0, 0, 0, []))], [(2, [2, 4, 5, 6, 7]), (26, [2, 4, 5, 6, 7]), (73, [1, 2, 4, 5, 6, 7]), (84, [1, 2, 5, 6, 7]), (96, [1, 2, 6, 7]), (108, [1, 2, 7]), (120, [1, 2])])
def tx_M_parts : Tx := ([(0, (4, 1, 0, 0, 0, 0, 0, [])), (1, (31, 4, 12, 23, 21, 0, 0, [])), (4, (2, 5, 1, 0, 0, 0, 0, [])), (5, (2, 6, 2, 0, 0, 0, 0, [])), (6, (2, 7, 3, 0, 0, 0, 0, [])), (7, (2, 9, 4, 0, 0, 0, 0, [])), (9, (2, 11, 5, 0, 0, 0, 0, [])), (11, (50, 14, 184, 5, 1, 0, 0, [])), (14, (38, 15, 0, 0, 0, 0, 0, [])), (15, (6, 17, 6, 0, 0, 0, 0, [])), (17, (0, 18, 0, 0, 0, 0, 0, [])), (18, (5, 20, 8, 0, 0, 0, 0, [])), (20, (0, 21, 0, 0, 0, -1, 0, [])), (21, (5, 23, 9, 0, 0, 0, 0, [])), (23, (0, 24, 0, 0, 0, 0, 0, [])), (24, (5, 26, 10, 0, 0, 0, 0, [])), (26, (2, 28, 10, 0, 0, 0, 0, [])), (28, (4, 29, 0, 0, 0, 0, 0, [])), (29, (50, 32, 177, 1, 1, 0, 0, [12])), (32, (24, 35, 3, 82, 0, 0, 0, [])), (35, (4, 36, 0, 0, 0, 0, 0, [])), (36, (2, 37, 1, 0, 0, 0, 0, [])), (37, (2, 38, 2, 0, 0, 0, 0, [])), (38, (2, 39, 3, 0, 0, 0, 0, [])), (39, (2, 41, 4, 0, 0, 0, 0, [])), (41, (2, 43, 5, 0, 0, 0, 0, [])), (43, (2, 45, 10, 0, 0, 0, 0, [])), (45, (50, 48, 214, 7, 1, 0, 0, [12])), (48, (5, 50, 11, 0, 0, 0, 0, [])), (50, (2, 52, 8, 0, 0, 0, 0, [])), (52, (2, 54, 11, 0, 0, 0, 0, [])), (54, (9, 55, 0, 0, 0, 0, 0, [])), (55, (5, 57, 8, 0, 0, 0, 0, [])), (57, (2, 59, 9, 0, 0, 0, 0, [])), (59, (25, 62, 3, 72, 0, 0, 0, [])), (62, (2, 64, 11, 0, 0, 0, 0, [])), (64, (25, 67, 5, 72, 0, 0, 0, [])), (67, (2, 69, 10, 0, 0, 0, 0, [])), (69, (26, 72, 0, 74, 0, 0, 0, [])), (72, (2, 74, 9, 0, 0, 0, 0, [])), (74, (5, 76, 9, 0, 0, 0, 0, [])), (76, (8, 79, 10, 0, 0, 1, 0, [])), (79, (26, 82, 0, 26, 0, 0, 0, [])), (82, (3, 84, 6, 0, 0, 0, 0, [])), (84, (6, 86, 10, 0, 0, 0, 0, [])), (86, (0, 87, 0, 0, 0, 0, 0, [])), (87, (5, 89, 12, 0, 0, 0, 0, [])), (89, (2, 91, 12, 0, 0, 0, 0, [])), (91, (4, 92, 0, 0, 0, 0, 0, [])), (92, (50, 95, 177, 1, 1, 0, 0, [12])), (95, (24, 98, 3, 154, 0, 0, 0, [])), (98, (2, 100, 8, 0, 0, 0, 0, [])), (100, (25, 103, 5, 154, 0, 0, 0, [])), (103, (3, 105, 6, 0, 0, 0, 0, [])), (105, (4, 106, 0, 0, 0, 0, 0, [])), (106, (2, 107, 1, 0, 0, 0, 0, [])), (107, (2, 108, 2, 0, 0, 0, 0, [])), (108, (2, 109, 3, 0, 0, 0, 0, [])), (109, (2, 111, 4, 0, 0, 0, 0, [])), (111, (2, 113, 5, 0, 0, 0, 0, [])), (113, (2, 115, 12, 0, 0, 0, 0, [])), (115, (50, 118, 214, 7, 1, 0, 0, [12])), (118, (18, 119, 0, 0, 0, 0, 0, [])), (119, (13, 120, 2, 0, 0, 0, 0, [])), (120, (2, 122, 8, 0, 0, 0, 0, [])), (122, (18, 123, 0, 0, 0, 0, 0, [])), (123, (16, 124, 0, 0, 0, 0, 0, [])), (124, (6, 126, 13, 0, 0, 0, 0, [])), (126, (3, 128, 10, 0, 0, 0, 0, [])), (128, (3, 130, 13, 0, 0, 0, 0, [])), (130, (13, 131, 1, 0, 0, 0, 0, [])), (131, (6, 133, 10, 0, 0, 0, 0, [])), (133, (4, 134, 0, 0, 0, 0, 0, [])), (134, (2, 135, 1, 0, 0, 0, 0, [])), (135, (2, 136, 2, 0, 0, 0, 0, [])), (136, (2, 137, 3, 0, 0, 0, 0, [])), (137, (2, 139, 4, 0, 0, 0, 0, [])), (139, (2, 141, 5, 0, 0, 0, 0, [])), (141, (2, 143, 12, 0, 0, 0, 0, [])), (143, (3, 145, 13, 0, 0, 0, 0, [])), (145, (50, 148, 217, 8, 0, 0, 0, [12])), (148, (8, 151, 12, 0, 0, 1, 0, [])), (151, (26, 154, 0, 89, 0, 0, 0, [])), (154, (2, 156, 8, 0, 0, 0, 0, [])), (156, (25, 159, 5, 174, 0, 0, 0, [])), (159, (4, 160, 0, 0, 0, 0, 0, [])), (160, (2, 161, 1, 0, 0, 0, 0, [])), (161, (2, 162, 2, 0, 0, 0, 0, [])), (162, (2, 163, 3, 0, 0, 0, 0, [])), (163, (2, 165, 4, 0, 0, 0, 0, [])), (165, (2, 167, 5, 0, 0, 0, 0, [])), (167, (2, 169, 9, 0, 0, 0, 0, [])), (169, (3, 171, 10, 0, 0, 0, 0, [])), (171, (50, 174, 217, 8, 0, 0, 0, [12])), (174, (55, 175, 0, 0, 0, 0, 0, []))], [(26, [7, 11, 12, 13, 14]), (89, [7, 11, 13, 14]), (154, [6, 7, 11, 12, 13, 14])])
def tx_M_moves : Tx := ([(0, (3, 2, 7, 0, 0, 0, 0, [])), (2, (1, 3, 0, 0, 0, 0, 0, [])), (3, (21, 4, 0, 0, 0, 0, 0, [])), (4, (25, 7, 5, 59, 0, 0, 0, [])), (7, (4, 8, 0, 0, 0, 0, 0, [])), (8, (31, 11, 12, 23, 21, 0, 0, [])), (11, (4, 12, 0, 0, 0, 0, 0, [])), (12, (2, 13, 1, 0, 0, 0, 0, [])), (13, (2, 14, 2, 0, 0, 0, 0, [])), (14, (2, 15, 3, 0, 0, 0, 0, [])), (15, (2, 17, 4, 0, 0, 0, 0, [])), (17, (2, 19, 5, 0, 0, 0, 0, [])), (19, (2, 21, 6, 0, 0, 0, 0, [])), (21, (50, 24, 190, 7, 1, 0, 0, [12])), (24, (23, 25, 0, 0, 0, 0, 0, [])), (25, (38, 26, 0, 0, 0, 0, 0, [])), (26, (3, 28, 7, 0, 0, 0, 0, [])), (28, (13, 29, 0, 0, 0, 0, 0, [])), (29, (43, 30, 0, 0, 0, 0, 0, [])), (30, (4, 31, 0, 0, 0, 0, 0, [])), (31, (31, 34, 12, 29, 21, 0, 0, [])), (34, (2, 35, 1, 0, 0, 0, 0, [])), (35, (4, 36, 0, 0, 0, 0, 0, [])), (36, (2, 38, 6, 0, 0, 0, 0, [])), (38, (50, 41, 178, 2, 1, 0, 0, [12])), (41, (9, 42, 0, 0, 0, 0, 0, [])), (42, (23, 43, 0, 0, 0, 0, 0, [])), (43, (38, 44, 0, 0, 0, 0, 0, [])), (44, (3, 46, 7, 0, 0, 0, 0, [])), (46, (13, 47, 0, 0, 0, 0, 0, [])), (47, (43, 48, 0, 0, 0, 0, 0, [])), (48, (4, 49, 0, 0, 0, 0, 0, [])), (49, (22, 50, 0, 0, 0, 0, 0, [])), (50, (30, 53, 12, 30, 0, 0, 0, [])), (53, (3, 55, 7, 0, 0, 0, 0, [])), (55, (13, 56, 0, 0, 0, 0, 0, [])), (56, (34, 59, 12, 30, 0, 0, 0, [])), (59, (55, 60, 0, 0, 0, 0, 0, []))], [])
def tx_M_isCrowd : Tx := ([(0, (3, 1, 0, 0, 0, 0, 0, [])), (1, (1, 2, 0, 0, 0, 0, 1, [])), (2, (21, 3, 0, 0, 0, 0, 0, [])), (3, (25, 6, 2, 18, 0, 0, 0, [])), (6, (3, 7, 0, 0, 0, 0, 0, [])), (7, (1, 10, 395, 0, 0, 0, 1000000000000, [])), (10, (21, 11, 0, 0, 0, 0, 0, [])), (11, (25, 14, 4, 18, 0, 0, 0, [])), (14, (0, 15, 0, 0, 0, 1, 0, [])), (15, (26, 18, 0, 19, 0, 0, 0, [])), (18, (0, 19, 0, 0, 0, 0, 0, [])), (19, (53, 20, 1, 0, 0, 0, 0, []))], [])
def tx_M_crowd : Tx := ([(0, (4, 1, 0, 0, 0, 0, 0, [])), (1, (0, 2, 0, 0, 0, 0, 0, [])), (2, (32, 5, 12, 0, 0, 0, 0, [])), (5, (3, 6, 1, 0, 0, 0, 0, [])), (6, (50, 9, 218, 1, 1, 0, 0, [])), (9, (25, 12, 0, 24, 0, 0, 0, [])), (12, (2, 13, 3, 0, 0, 0, 0, [])), (13, (0, 14, 0, 0, 0, 0, 0, [])), (14, (4, 15, 0, 0, 0, 0, 0, [])), (15, (50, 18, 176, 1, 1, 0, 0, [12])), (18, (50, 21, 154, 3, 1, 0, 0, [])), (21, (25, 24, 1, 28, 0, 0, 0, [])), (24, (1, 27, 363, 0, 0, 0, -1, [])), (27, (54, 28, 0, 0, 0, 0, 0, [])), (28, (4, 29, 0, 0, 0, 0, 0, [])), (29, (0, 30, 0, 0, 0, 0, 0, [])), (30, (33, 33, 12, 24, 0, 0, 0, [])), (33, (4, 34, 0, 0, 0, 0, 0, [])), (34, (3, 35, 1, 0, 0, 0, 0, [])), (35, (50, 38, 215, 2, 0, 0, 0, [12])), (38, (4, 39, 0, 0, 0, 0, 0, [])), (39, (31, 42, 12, 29, 21, 0, 0, [])), (42, (2, 43, 3, 0, 0, 0, 0, [])), (43, (38, 44, 0, 0, 0, 0, 0, [])), (44, (54, 45, 0, 0, 0, 0, 0, []))], [])
def tx_M_weary : Tx := ([(0, (4, 1, 0, 0, 0, 0, 0, [])), (1, (0, 2, 0, 0, 0, 0, 0, [])), (2, (32, 5, 12, 0, 0, 0, 0, [])), (5, (3, 6, 1, 0, 0, 0, 0, [])), (6, (50, 9, 218, 1, 1, 0, 0, [])), (9, (25, 12, 1, 16, 0, 0, 0, [])), (12, (1, 15, 363, 0, 0, 0, -1, [])), (15, (54, 16, 0, 0, 0, 0, 0, [])), (16, (4, 17, 0, 0, 0, 0, 0, [])), (17, (0, 18, 0, 0, 0, 0, 0, [])), (18, (33, 21, 12, 24, 0, 0, 0, [])), (21, (4, 22, 0, 0, 0, 0, 0, [])), (22, (3, 23, 1, 0, 0, 0, 0, [])), (23, (50, 26, 215, 2, 0, 0, 0, [12])), (26, (4, 27, 0, 0, 0, 0, 0, [])), (27, (30, 30, 12, 30, 0, 0, 0, [])), (30, (54, 31, 0, 0, 0, 0, 0, []))], [])
def tx_M_weight : Tx := ([(0, (4, 1, 0, 0, 0, 0, 0, [])), (1, (2, 2, 1, 0, 0, 0, 0, [])), (2, (50, 5, 200, 2, 1, 0, 0, [12])), (5, (25, 8, 1, 10, 0, 0, 0, [])), (8, (0, 9, 0, 0, 0, -1, 0, [])), (9, (53, 10, 0, 0, 0, 0, 0, [])), (10, (4, 11, 0, 0, 0, 0, 0, [])), (11, (4, 12, 0, 0, 0, 0, 0, [])), (12, (29, 15, 12, 19, 0, 0, 0, [])), (15, (4, 16, 0, 0, 0, 0, 0, [])), (16, (29, 19, 12, 20, 0, 0, 0, [])), (19, (4, 20, 0, 0, 0, 0, 0, [])), (20, (4, 21, 0, 0, 0, 0, 0, [])), (21, (29, 24, 12, 21, 0, 0, 0, [])), (24, (50, 27, 185, 2, 1, 0, 0, [12])), (27, (4, 28, 0, 0, 0, 0, 0, [])), (28, (29, 31, 12, 22, 0, 0, 0, [])), (31, (4, 32, 0, 0, 0, 0, 0, [])), (32, (50, 35, 180, 1, 1, 0, 0, [12])), (35, (4, 36, 0, 0, 0, 0, 0, [])), (36, (2, 37, 1, 0, 0, 0, 0, [])), (37, (50, 40, 181, 2, 1, 0, 0, [12])), (40, (50, 43, 214, 7, 1, 0, 0, [12])), (43, (53, 44, 0, 0, 0, 0, 0, []))], [])
def tx_M_comes : Tx := ([(0, (2, 1, 2, 0, 0, 0, 0, [])), (1, (25, 4, 3, 8, 0, 0, 0, [])), (4, (2, 5, 1, 0, 0, 0, 0, [])), (5, (26, 8, 0, 17, 0, 0, 0, [])), (8, (2, 9, 1, 0, 0, 0, 0, [])), (9, (2, 10, 3, 0, 0, 0, 0, [])), (10, (4, 11, 0, 0, 0, 0, 0, [])), (11, (2, 12, 2, 0, 0, 0, 0, [])), (12, (50, 15, 178, 2, 1, 0, 0, [12])), (15, (9, 16, 2, 0, 0, 0, 0, [])), (16, (9, 17, 0, 0, 0, 0, 0, [])), (17, (5, 19, 4, 0, 0, 0, 0, [])), (19, (2, 21, 4, 0, 0, 0, 0, [])), (21, (25, 24, 2, 43, 0, 0, 0, [])), (24, (2, 26, 4, 0, 0, 0, 0, [])), (26, (4, 27, 0, 0, 0, 0, 0, [])), (27, (50, 30, 176, 1, 1, 0, 0, [12])), (30, (24, 33, 4, 43, 0, 0, 0, [])), (33, (4, 34, 0, 0, 0, 0, 0, [])), (34, (2, 36, 4, 0, 0, 0, 0, [])), (36, (50, 39, 179, 2, 1, 0, 0, [12])), (39, (0, 40, 0, 0, 0, 1, 0, [])), (40, (24, 43, 1, 47, 0, 0, 0, [])), (43, (0, 44, 0, 0, 0, -1, 0, [])), (44, (26, 47, 0, 49, 0, 0, 0, [])), (47, (2, 49, 4, 0, 0, 0, 0, [])), (49, (53, 50, 0, 0, 0, 0, 0, []))], [(17, [1, 2, 3, 4])])
def tx_M_two : Tx := ([(0, (4, 1, 0, 0, 0, 0, 0, [])), (1, (0, 2, 0, 0, 0, 0, 0, [])), (2, (32, 5, 12, 0, 0, 0, 0, [])), (5, (4, 6, 0, 0, 0, 0, 0, [])), (6, (50, 9, 176, 1, 1, 0, 0, [12])), (9, (0, 11, 0, 0, 0, 24, 0, [])), (11, (24, 14, 5, 18, 0, 0, 0, [])), (14, (1, 17, 363, 0, 0, 0, -1, [])), (17, (54, 18, 0, 0, 0, 0, 0, [])), (18, (4, 19, 0, 0, 0, 0, 0, [])), (19, (50, 22, 176, 1, 1, 0, 0, [12])), (22, (5, 23, 1, 0, 0, 0, 0, [])), (23, (2, 24, 1, 0, 0, 0, 0, [])), (24, (5, 25, 2, 0, 0, 0, 0, [])), (25, (2, 26, 2, 0, 0, 0, 0, [])), (26, (25, 29, 2, 215, 0, 0, 0, [])), (29, (0, 30, 0, 0, 0, 0, 0, [])), (30, (5, 31, 3, 0, 0, 0, 0, [])), (31, (2, 32, 3, 0, 0, 0, 0, [])), (32, (2, 33, 1, 0, 0, 0, 0, [])), (33, (24, 36, 4, 209, 0, 0, 0, [])), (36, (2, 37, 2, 0, 0, 0, 0, [])), (37, (2, 38, 1, 0, 0, 0, 0, [])), (38, (24, 41, 1, 49, 0, 0, 0, [])), (41, (2, 42, 3, 0, 0, 0, 0, [])), (42, (25, 45, 1, 49, 0, 0, 0, [])), (45, (1, 46, 0, 0, 0, 0, 1, [])), (46, (26, 49, 0, 50, 0, 0, 0, [])), (49, (1, 50, 0, 0, 0, 0, 0, [])), (50, (6, 52, 4, 0, 0, 0, 0, [])), (52, (2, 53, 2, 0, 0, 0, 0, [])), (53, (2, 54, 1, 0, 0, 0, 0, [])), (54, (24, 57, 1, 61, 0, 0, 0, [])), (57, (0, 58, 0, 0, 0, -1, 0, [])), (58, (26, 61, 0, 62, 0, 0, 0, [])), (61, (0, 62, 0, 0, 0, 0, 0, [])), (62, (5, 64, 6, 0, 0, 0, 0, [])), (64, (2, 66, 6, 0, 0, 0, 0, [])), (66, (2, 67, 2, 0, 0, 0, 0, [])), (67, (2, 68, 1, 0, 0, 0, 0, [])), (68, (24, 71, 1, 75, 0, 0, 0, [])), (71, (0, 72, 0, 0, 0, 0, 0, [])), (72, (26, 75, 0, 79, 0, 0, 0, [])), (75, (4, 76, 0, 0, 0, 0, 0, [])), (76, (50, 79, 177, 1, 1, 0, 0, [12])), (79, (24, 82, 3, 190, 0, 0, 0, [])), (82, (2, 83, 3, 0, 0, 0, 0, [])), (83, (25, 86, 1, 90, 0, 0, 0, [])), (86, (0, 87, 0, 0, 0, -1, 0, [])), (87, (26, 90, 0, 91, 0, 0, 0, [])), (90, (0, 91, 0, 0, 0, 0, 0, [])), (91, (5, 93, 7, 0, 0, 0, 0, [])), (93, (2, 95, 7, 0, 0, 0, 0, [])), (95, (2, 96, 3, 0, 0, 0, 0, [])), (96, (25, 99, 1, 103, 0, 0, 0, [])), (99, (0, 100, 0, 0, 0, 0, 0, [])), (100, (26, 103, 0, 107, 0, 0, 0, [])), (103, (4, 104, 0, 0, 0, 0, 0, [])), (104, (50, 107, 177, 1, 1, 0, 0, [12])), (107, (24, 110, 3, 184, 0, 0, 0, [])), (110, (2, 111, 2, 0, 0, 0, 0, [])), (111, (2, 112, 1, 0, 0, 0, 0, [])), (112, (24, 115, 2, 119, 0, 0, 0, [])), (115, (2, 116, 3, 0, 0, 0, 0, [])), (116, (25, 119, 5, 184, 0, 0, 0, [])), (119, (4, 120, 0, 0, 0, 0, 0, [])), (120, (2, 121, 2, 0, 0, 0, 0, [])), (121, (2, 123, 6, 0, 0, 0, 0, [])), (123, (0, 124, 0, 0, 0, 1, 0, [])), (124, (50, 127, 222, 4, 1, 0, 0, [12])), (127, (5, 129, 8, 0, 0, 0, 0, [])), (129, (4, 130, 0, 0, 0, 0, 0, [])), (130, (2, 131, 3, 0, 0, 0, 0, [])), (131, (2, 133, 7, 0, 0, 0, 0, [])), (133, (0, 134, 0, 0, 0, -1, 0, [])), (134, (50, 137, 222, 4, 1, 0, 0, [12])), (137, (5, 139, 9, 0, 0, 0, 0, [])), (139, (3, 141, 4, 0, 0, 0, 0, [])), (141, (2, 143, 8, 0, 0, 0, 0, [])), (143, (25, 146, 2, 174, 0, 0, 0, [])), (146, (2, 148, 9, 0, 0, 0, 0, [])), (148, (25, 151, 2, 174, 0, 0, 0, [])), (151, (2, 153, 8, 0, 0, 0, 0, [])), (153, (2, 155, 9, 0, 0, 0, 0, [])), (155, (24, 158, 0, 174, 0, 0, 0, [])), (158, (4, 159, 0, 0, 0, 0, 0, [])), (159, (31, 162, 12, 31, 21, 0, 0, [])), (162, (0, 164, 0, 0, 0, 25, 0, [])), (164, (2, 166, 8, 0, 0, 0, 0, [])), (166, (9, 167, 2, 0, 0, 0, 0, [])), (167, (2, 169, 9, 0, 0, 0, 0, [])), (169, (9, 170, 0, 0, 0, 0, 0, [])), (170, (38, 171, 0, 0, 0, 0, 0, [])), (171, (26, 174, 0, 175, 0, 0, 0, [])), (174, (1, 175, 0, 0, 0, 0, 0, [])), (175, (13, 176, 0, 0, 0, 0, 0, [])), (176, (6, 178, 4, 0, 0, 0, 0, [])), (178, (8, 181, 7, 0, 0, 1, 0, [])), (181, (26, 184, 0, 93, 0, 0, 0, [])), (184, (8, 187, 6, 0, 0, 1, 0, [])), (187, (26, 190, 0, 64, 0, 0, 0, [])), (190, (4, 191, 0, 0, 0, 0, 0, [])), (191, (31, 194, 12, 31, 21, 0, 0, [])), (194, (0, 196, 0, 0, 0, 25, 0, [])), (196, (2, 197, 2, 0, 0, 0, 0, [])), (197, (9, 198, 2, 0, 0, 0, 0, [])), (198, (2, 199, 3, 0, 0, 0, 0, [])), (199, (9, 200, 0, 0, 0, 0, 0, [])), (200, (3, 202, 4, 0, 0, 0, 0, [])), (202, (43, 203, 0, 0, 0, 0, 0, [])), (203, (8, 206, 3, 0, 0, 1, 0, [])), (206, (26, 209, 0, 31, 0, 0, 0, [])), (209, (8, 212, 2, 0, 0, -1, 0, [])), (212, (26, 215, 0, 25, 0, 0, 0, [])), (215, (4, 216, 0, 0, 0, 0, 0, [])), (216, (31, 219, 12, 31, 21, 0, 0, [])), (219, (2, 220, 1, 0, 0, 0, 0, [])), (220, (38, 221, 0, 0, 0, 0, 0, [])), (221, (54, 222, 0, 0, 0, 0, 0, []))], [(25, [3, 4, 5, 6, 7, 8, 9]), (31, [4, 5, 6, 7, 8, 9]), (50, [4, 5, 6, 7, 8, 9]), (64, [5, 7, 8, 9]), (79, [5, 7, 8, 9]), (93, [5, 8, 9]), (107, [5, 8, 9]), (119, [5, 8, 9])])
def tx_M_game : Tx := ([(0, (4, 1, 0, 0, 0, 0, 0, [])), (1, (0, 2, 0, 0, 0, 0, 0, [])), (2, (32, 5, 12, 0, 0, 0, 0, [])), (5, (4, 6, 0, 0, 0, 0, 0, [])), (6, (0, 7, 0, 0, 0, 0, 0, [])), (7, (33, 10, 12, 24, 0, 0, 0, [])), (10, (4, 11, 0, 0, 0, 0, 0, [])), (11, (50, 14, 183, 1, 0, 0, 0, [12])), (14, (4, 15, 0, 0, 0, 0, 0, [])), (15, (29, 18, 12, 19, 0, 0, 0, [])), (18, (4, 19, 0, 0, 0, 0, 0, [])), (19, (50, 22, 176, 1, 1, 0, 0, [12])), (22, (24, 25, 1, 27, 0, 0, 0, [])), (25, (0, 26, 0, 0, 0, -1, 0, [])), (26, (53, 27, 0, 0, 0, 0, 0, [])), (27, (4, 28, 0, 0, 0, 0, 0, [])), (28, (0, 29, 0, 0, 0, -1, 0, [])), (29, (0, 30, 0, 0, 0, 1, 0, [])), (30, (50, 33, 194, 3, 0, 0, 0, [12])), (33, (0, 34, 0, 0, 0, 0, 0, [])), (34, (5, 35, 1, 0, 0, 0, 0, [])), (35, (2, 36, 1, 0, 0, 0, 0, [])), (36, (4, 37, 0, 0, 0, 0, 0, [])), (37, (50, 40, 177, 1, 1, 0, 0, [12])), (40, (24, 43, 3, 119, 0, 0, 0, [])), (43, (4, 44, 0, 0, 0, 0, 0, [])), (44, (2, 45, 1, 0, 0, 0, 0, [])), (45, (50, 48, 198, 2, 1, 0, 0, [12])), (48, (25, 51, 0, 113, 0, 0, 0, [])), (51, (4, 52, 0, 0, 0, 0, 0, [])), (52, (29, 55, 12, 19, 0, 0, 0, [])), (55, (4, 56, 0, 0, 0, 0, 0, [])), (56, (2, 57, 1, 0, 0, 0, 0, [])), (57, (50, 60, 178, 2, 1, 0, 0, [12])), (60, (9, 61, 0, 0, 0, 0, 0, [])), (61, (4, 62, 0, 0, 0, 0, 0, [])), (62, (50, 65, 176, 1, 1, 0, 0, [12])), (65, (24, 68, 0, 107, 0, 0, 0, [])), (68, (4, 69, 0, 0, 0, 0, 0, [])), (69, (31, 72, 12, 23, 21, 0, 0, [])), (72, (4, 73, 0, 0, 0, 0, 0, [])), (73, (4, 74, 0, 0, 0, 0, 0, [])), (74, (29, 77, 12, 19, 0, 0, 0, [])), (77, (4, 78, 0, 0, 0, 0, 0, [])), (78, (29, 81, 12, 20, 0, 0, 0, [])), (81, (4, 82, 0, 0, 0, 0, 0, [])), (82, (4, 83, 0, 0, 0, 0, 0, [])), (83, (29, 86, 12, 21, 0, 0, 0, [])), (86, (50, 89, 185, 2, 1, 0, 0, [12])), (89, (4, 90, 0, 0, 0, 0, 0, [])), (90, (29, 93, 12, 22, 0, 0, 0, [])), (93, (4, 94, 0, 0, 0, 0, 0, [])), (94, (50, 97, 180, 1, 1, 0, 0, [12])), (97, (2, 98, 1, 0, 0, 0, 0, [])), (98, (50, 101, 190, 7, 1, 0, 0, [12])), (101, (38, 102, 0, 0, 0, 0, 0, [])), (102, (1, 103, 0, 0, 0, 0, 0, [])), (103, (21, 104, 0, 0, 0, 0, 0, [])), (104, (25, 107, 1, 113, 0, 0, 0, [])), (107, (4, 108, 0, 0, 0, 0, 0, [])), (108, (2, 109, 1, 0, 0, 0, 0, [])), (109, (50, 112, 178, 2, 1, 0, 0, [12])), (112, (53, 113, 0, 0, 0, 0, 0, [])), (113, (8, 116, 1, 0, 0, 1, 0, [])), (116, (26, 119, 0, 35, 0, 0, 0, [])), (119, (0, 120, 0, 0, 0, 0, 0, [])), (120, (53, 121, 0, 0, 0, 0, 0, []))], [(35, []), (43, [])])
def tx_M_findHeaps : Tx := ([(0, (4, 1, 0, 0, 0, 0, 0, [])), (1, (50, 4, 176, 1, 1, 0, 0, [12])), (4, (5, 5, 1, 0, 0, 0, 0, [])), (5, (2, 6, 1, 0, 0, 0, 0, [])), (6, (25, 9, 2, 126, 0, 0, 0, [])), (9, (0, 10, 0, 0, 0, 0, 0, [])), (10, (5, 11, 2, 0, 0, 0, 0, [])), (11, (0, 12, 0, 0, 0, 0, 0, [])), (12, (5, 13, 3, 0, 0, 0, 0, [])), (13, (2, 14, 3, 0, 0, 0, 0, [])), (14, (4, 15, 0, 0, 0, 0, 0, [])), (15, (50, 18, 177, 1, 1, 0, 0, [12])), (18, (24, 21, 3, 71, 0, 0, 0, [])), (21, (2, 22, 1, 0, 0, 0, 0, [])), (22, (4, 23, 0, 0, 0, 0, 0, [])), (23, (2, 24, 3, 0, 0, 0, 0, [])), (24, (50, 27, 178, 2, 1, 0, 0, [12])), (27, (9, 28, 0, 0, 0, 0, 0, [])), (28, (5, 30, 4, 0, 0, 0, 0, [])), (30, (2, 31, 2, 0, 0, 0, 0, [])), (31, (2, 33, 4, 0, 0, 0, 0, [])), (33, (4, 34, 0, 0, 0, 0, 0, [])), (34, (50, 37, 176, 1, 1, 0, 0, [12])), (37, (24, 40, 4, 62, 0, 0, 0, [])), (40, (4, 41, 0, 0, 0, 0, 0, [])), (41, (2, 43, 4, 0, 0, 0, 0, [])), (43, (50, 46, 179, 2, 1, 0, 0, [12])), (46, (0, 47, 0, 0, 0, 1, 0, [])), (47, (24, 50, 0, 62, 0, 0, 0, [])), (50, (0, 51, 0, 0, 0, 1, 0, [])), (51, (4, 52, 0, 0, 0, 0, 0, [])), (52, (31, 55, 12, 32, 20, 0, 0, [])), (55, (2, 57, 4, 0, 0, 0, 0, [])), (57, (37, 58, 0, 0, 0, 0, 0, [])), (58, (9, 59, 6, 0, 0, 0, 0, [])), (59, (26, 62, 0, 63, 0, 0, 0, [])), (62, (0, 63, 0, 0, 0, 0, 0, [])), (63, (9, 64, 4, 0, 0, 0, 0, [])), (64, (5, 65, 2, 0, 0, 0, 0, [])), (65, (8, 68, 3, 0, 0, 1, 0, [])), (68, (26, 71, 0, 13, 0, 0, 0, [])), (71, (0, 72, 0, 0, 0, 0, 0, [])), (72, (5, 73, 3, 0, 0, 0, 0, [])), (73, (2, 74, 2, 0, 0, 0, 0, [])), (74, (2, 75, 3, 0, 0, 0, 0, [])), (75, (9, 76, 7, 0, 0, 0, 0, [])), (76, (0, 77, 0, 0, 0, 1, 0, [])), (77, (9, 78, 3, 0, 0, 0, 0, [])), (78, (0, 79, 0, 0, 0, 1, 0, [])), (79, (24, 82, 1, 88, 0, 0, 0, [])), (82, (8, 85, 3, 0, 0, 1, 0, [])), (85, (26, 88, 0, 73, 0, 0, 0, [])), (88, (4, 89, 0, 0, 0, 0, 0, [])), (89, (31, 92, 12, 32, 20, 0, 0, [])), (92, (2, 93, 1, 0, 0, 0, 0, [])), (93, (4, 94, 0, 0, 0, 0, 0, [])), (94, (2, 95, 1, 0, 0, 0, 0, [])), (95, (50, 98, 179, 2, 1, 0, 0, [12])), (98, (0, 99, 0, 0, 0, 1, 0, [])), (99, (24, 102, 1, 106, 0, 0, 0, [])), (102, (0, 103, 0, 0, 0, -1, 0, [])), (103, (26, 106, 0, 119, 0, 0, 0, [])), (106, (2, 107, 1, 0, 0, 0, 0, [])), (107, (4, 108, 0, 0, 0, 0, 0, [])), (108, (50, 111, 176, 1, 1, 0, 0, [12])), (111, (24, 114, 1, 118, 0, 0, 0, [])), (114, (0, 115, 0, 0, 0, 0, 0, [])), (115, (26, 118, 0, 119, 0, 0, 0, [])), (118, (2, 119, 3, 0, 0, 0, 0, [])), (119, (42, 120, 0, 0, 0, 0, 0, [])), (120, (8, 123, 1, 0, 0, -1, 0, [])), (123, (26, 126, 0, 5, 0, 0, 0, [])), (126, (55, 127, 0, 0, 0, 0, 0, []))], [(5, [2, 3, 4]), (13, [4]), (73, [4])])
def tx_M_heaps : Tx := ([(0, (4, 1, 0, 0, 0, 0, 0, [])), (1, (0, 2, 0, 0, 0, 0, 0, [])), (2, (32, 5, 12, 0, 0, 0, 0, [])), (5, (4, 6, 0, 0, 0, 0, 0, [])), (6, (50, 9, 225, 1, 0, 0, 0, [12])), (9, (2, 10, 1, 0, 0, 0, 0, [])), (10, (5, 11, 2, 0, 0, 0, 0, [])), (11, (0, 12, 0, 0, 0, 0, 0, [])), (12, (5, 13, 3, 0, 0, 0, 0, [])), (13, (2, 14, 1, 0, 0, 0, 0, [])), (14, (25, 17, 2, 21, 0, 0, 0, [])), (17, (0, 18, 0, 0, 0, 1, 0, [])), (18, (26, 21, 0, 22, 0, 0, 0, [])), (21, (0, 22, 0, 0, 0, 0, 0, [])), (22, (5, 24, 4, 0, 0, 0, 0, [])), (24, (0, 25, 0, 0, 0, 0, 0, [])), (25, (5, 27, 5, 0, 0, 0, 0, [])), (27, (2, 29, 5, 0, 0, 0, 0, [])), (29, (0, 30, 0, 0, 0, 4, 0, [])), (30, (24, 33, 3, 100, 0, 0, 0, [])), (33, (2, 35, 4, 0, 0, 0, 0, [])), (35, (25, 38, 0, 100, 0, 0, 0, [])), (38, (2, 39, 2, 0, 0, 0, 0, [])), (39, (0, 41, 0, 0, 0, 64, 0, [])), (41, (11, 42, 0, 0, 0, 0, 0, [])), (42, (5, 44, 6, 0, 0, 0, 0, [])), (44, (2, 45, 2, 0, 0, 0, 0, [])), (45, (0, 47, 0, 0, 0, 64, 0, [])), (47, (10, 48, 0, 0, 0, 0, 0, [])), (48, (5, 49, 2, 0, 0, 0, 0, [])), (49, (2, 51, 6, 0, 0, 0, 0, [])), (51, (4, 52, 0, 0, 0, 0, 0, [])), (52, (50, 55, 176, 1, 1, 0, 0, [12])), (55, (24, 58, 4, 72, 0, 0, 0, [])), (58, (4, 59, 0, 0, 0, 0, 0, [])), (59, (31, 62, 12, 32, 20, 0, 0, [])), (62, (2, 64, 6, 0, 0, 0, 0, [])), (64, (37, 65, 0, 0, 0, 0, 0, [])), (65, (25, 68, 2, 72, 0, 0, 0, [])), (68, (0, 69, 0, 0, 0, 1, 0, [])), (69, (26, 72, 0, 73, 0, 0, 0, [])), (72, (0, 73, 0, 0, 0, 0, 0, [])), (73, (5, 75, 4, 0, 0, 0, 0, [])), (75, (2, 76, 3, 0, 0, 0, 0, [])), (76, (2, 78, 4, 0, 0, 0, 0, [])), (78, (25, 81, 0, 91, 0, 0, 0, [])), (81, (4, 82, 0, 0, 0, 0, 0, [])), (82, (31, 85, 12, 32, 20, 0, 0, [])), (85, (2, 87, 6, 0, 0, 0, 0, [])), (87, (37, 88, 0, 0, 0, 0, 0, [])), (88, (26, 91, 0, 92, 0, 0, 0, [])), (91, (0, 92, 0, 0, 0, 0, 0, [])), (92, (9, 93, 5, 0, 0, 0, 0, [])), (93, (5, 94, 3, 0, 0, 0, 0, [])), (94, (8, 97, 5, 0, 0, 1, 0, [])), (97, (26, 100, 0, 27, 0, 0, 0, [])), (100, (2, 102, 4, 0, 0, 0, 0, [])), (102, (25, 105, 0, 109, 0, 0, 0, [])), (105, (2, 106, 2, 0, 0, 0, 0, [])), (106, (25, 109, 5, 113, 0, 0, 0, [])), (109, (0, 110, 0, 0, 0, -1, 0, [])), (110, (26, 113, 0, 122, 0, 0, 0, [])), (113, (2, 114, 3, 0, 0, 0, 0, [])), (114, (25, 117, 0, 121, 0, 0, 0, [])), (117, (0, 118, 0, 0, 0, 1, 0, [])), (118, (26, 121, 0, 122, 0, 0, 0, [])), (121, (0, 122, 0, 0, 0, 0, 0, [])), (122, (53, 123, 0, 0, 0, 0, 0, []))], [(27, [1, 6]), (73, [1, 4]), (100, [0, 1, 5, 6])])
def tx_M_dust : Tx := ([(0, (4, 1, 0, 0, 0, 0, 0, [])), (1, (0, 2, 0, 0, 0, 0, 0, [])), (2, (32, 5, 12, 0, 0, 0, 0, [])), (5, (2, 6, 1, 0, 0, 0, 0, [])), (6, (0, 7, 0, 0, 0, 1, 0, [])), (7, (4, 8, 0, 0, 0, 0, 0, [])), (8, (50, 11, 176, 1, 1, 0, 0, [12])), (11, (0, 12, 0, 0, 0, 1, 0, [])), (12, (9, 13, 1, 0, 0, 0, 0, [])), (13, (50, 16, 154, 3, 1, 0, 0, [])), (16, (25, 19, 0, 28, 0, 0, 0, [])), (19, (2, 20, 2, 0, 0, 0, 0, [])), (20, (0, 21, 0, 0, 0, 0, 0, [])), (21, (0, 22, 0, 0, 0, 2, 0, [])), (22, (50, 25, 154, 3, 1, 0, 0, [])), (25, (25, 28, 1, 30, 0, 0, 0, [])), (28, (0, 29, 0, 0, 0, 0, 0, [])), (29, (53, 30, 1, 0, 0, 0, 0, [])), (30, (4, 31, 0, 0, 0, 0, 0, [])), (31, (31, 34, 12, 17, 20, 0, 0, [])), (34, (0, 36, 0, 0, 0, 41, 0, [])), (36, (2, 37, 1, 0, 0, 0, 0, [])), (37, (9, 38, 0, 0, 0, 0, 0, [])), (38, (2, 39, 2, 0, 0, 0, 0, [])), (39, (42, 40, 0, 0, 0, 0, 0, [])), (40, (0, 41, 0, 0, 0, 1, 0, [])), (41, (53, 42, 1, 0, 0, 0, 0, []))], [])
def tx_M_fit : Tx := ([(0, (4, 1, 0, 0, 0, 0, 0, [])), (1, (0, 2, 0, 0, 0, 0, 0, [])), (2, (32, 5, 12, 0, 0, 0, 0, [])), (5, (4, 6, 0, 0, 0, 0, 0, [])), (6, (0, 7, 0, 0, 0, 1, 0, [])), (7, (33, 10, 12, 24, 0, 0, 0, [])), (10, (4, 11, 0, 0, 0, 0, 0, [])), (11, (0, 12, 0, 0, 0, -1, 0, [])), (12, (0, 13, 0, 0, 0, 0, 0, [])), (13, (50, 16, 194, 3, 0, 0, 0, [12])), (16, (4, 17, 0, 0, 0, 0, 0, [])), (17, (0, 18, 0, 0, 0, 0, 0, [])), (18, (33, 21, 12, 24, 0, 0, 0, [])), (21, (4, 22, 0, 0, 0, 0, 0, [])), (22, (31, 25, 12, 23, 21, 0, 0, [])), (25, (0, 26, 0, 0, 0, 0, 0, [])), (26, (0, 27, 0, 0, 0, 0, 0, [])), (27, (0, 28, 0, 0, 0, 0, 0, [])), (28, (0, 29, 0, 0, 0, 0, 0, [])), (29, (0, 30, 0, 0, 0, 0, 0, [])), (30, (50, 33, 184, 5, 1, 0, 0, [])), (33, (38, 34, 0, 0, 0, 0, 0, [])), (34, (54, 35, 0, 0, 0, 0, 0, []))], [])
def tx_M_isOpen : Tx := ([(0, (4, 1, 0, 0, 0, 0, 0, [])), (1, (2, 2, 1, 0, 0, 0, 0, [])), (2, (50, 5, 179, 2, 1, 0, 0, [12])), (5, (0, 6, 0, 0, 0, 1, 0, [])), (6, (24, 9, 0, 26, 0, 0, 0, [])), (9, (4, 10, 0, 0, 0, 0, 0, [])), (10, (31, 13, 12, 17, 20, 0, 0, [])), (13, (0, 15, 0, 0, 0, 41, 0, [])), (15, (2, 16, 1, 0, 0, 0, 0, [])), (16, (9, 17, 0, 0, 0, 0, 0, [])), (17, (37, 18, 0, 0, 0, 0, 0, [])), (18, (0, 19, 0, 0, 0, 2, 0, [])), (19, (24, 22, 0, 26, 0, 0, 0, [])), (22, (0, 23, 0, 0, 0, 1, 0, [])), (23, (26, 26, 0, 27, 0, 0, 0, [])), (26, (0, 27, 0, 0, 0, 0, 0, [])), (27, (53, 28, 1, 0, 0, 0, 0, []))], [])
def tx_M_findLeads : Tx := ([(0, (4, 1, 0, 0, 0, 0, 0, [])), (1, (50, 4, 176, 1, 1, 0, 0, [12])), (4, (5, 5, 1, 0, 0, 0, 0, [])), (5, (2, 6, 1, 0, 0, 0, 0, [])), (6, (25, 9, 2, 138, 0, 0, 0, [])), (9, (0, 10, 0, 0, 0, 0, 0, [])), (10, (5, 11, 2, 0, 0, 0, 0, [])), (11, (2, 12, 2, 0, 0, 0, 0, [])), (12, (4, 13, 0, 0, 0, 0, 0, [])), (13, (50, 16, 176, 1, 1, 0, 0, [12])), (16, (24, 19, 4, 132, 0, 0, 0, [])), (19, (2, 20, 1, 0, 0, 0, 0, [])), (20, (2, 21, 2, 0, 0, 0, 0, [])), (21, (24, 24, 1, 36, 0, 0, 0, [])), (24, (4, 25, 0, 0, 0, 0, 0, [])), (25, (2, 26, 1, 0, 0, 0, 0, [])), (26, (50, 29, 229, 2, 1, 0, 0, [12])), (29, (25, 32, 0, 36, 0, 0, 0, [])), (32, (0, 33, 0, 0, 0, 1, 0, [])), (33, (26, 36, 0, 37, 0, 0, 0, [])), (36, (0, 37, 0, 0, 0, 0, 0, [])), (37, (5, 38, 3, 0, 0, 0, 0, [])), (38, (0, 39, 0, 0, 0, 0, 0, [])), (39, (5, 41, 4, 0, 0, 0, 0, [])), (41, (2, 43, 4, 0, 0, 0, 0, [])), (43, (4, 44, 0, 0, 0, 0, 0, [])), (44, (50, 47, 177, 1, 1, 0, 0, [12])), (47, (24, 50, 3, 114, 0, 0, 0, [])), (50, (4, 51, 0, 0, 0, 0, 0, [])), (51, (2, 52, 1, 0, 0, 0, 0, [])), (52, (50, 55, 229, 2, 1, 0, 0, [12])), (55, (25, 58, 0, 114, 0, 0, 0, [])), (58, (2, 59, 1, 0, 0, 0, 0, [])), (59, (4, 60, 0, 0, 0, 0, 0, [])), (60, (2, 62, 4, 0, 0, 0, 0, [])), (62, (50, 65, 178, 2, 1, 0, 0, [12])), (65, (9, 66, 0, 0, 0, 0, 0, [])), (66, (5, 68, 5, 0, 0, 0, 0, [])), (68, (2, 69, 3, 0, 0, 0, 0, [])), (69, (25, 72, 1, 102, 0, 0, 0, [])), (72, (2, 74, 5, 0, 0, 0, 0, [])), (74, (2, 75, 2, 0, 0, 0, 0, [])), (75, (24, 78, 4, 106, 0, 0, 0, [])), (78, (4, 79, 0, 0, 0, 0, 0, [])), (79, (2, 81, 5, 0, 0, 0, 0, [])), (81, (50, 84, 229, 2, 1, 0, 0, [12])), (84, (25, 87, 0, 106, 0, 0, 0, [])), (87, (4, 88, 0, 0, 0, 0, 0, [])), (88, (31, 91, 12, 33, 23, 0, 0, [])), (91, (0, 93, 0, 0, 0, 41, 0, [])), (93, (2, 95, 5, 0, 0, 0, 0, [])), (95, (9, 96, 2, 0, 0, 0, 0, [])), (96, (2, 97, 2, 0, 0, 0, 0, [])), (97, (9, 98, 0, 0, 0, 0, 0, [])), (98, (40, 99, 0, 0, 0, 0, 0, [])), (99, (25, 102, 0, 106, 0, 0, 0, [])), (102, (0, 103, 0, 0, 0, 1, 0, [])), (103, (26, 106, 0, 107, 0, 0, 0, [])), (106, (0, 107, 0, 0, 0, 0, 0, [])), (107, (5, 108, 3, 0, 0, 0, 0, [])), (108, (8, 111, 4, 0, 0, 1, 0, [])), (111, (26, 114, 0, 41, 0, 0, 0, [])), (114, (4, 115, 0, 0, 0, 0, 0, [])), (115, (31, 118, 12, 33, 23, 0, 0, [])), (118, (0, 120, 0, 0, 0, 41, 0, [])), (120, (2, 121, 1, 0, 0, 0, 0, [])), (121, (9, 122, 2, 0, 0, 0, 0, [])), (122, (2, 123, 2, 0, 0, 0, 0, [])), (123, (9, 124, 0, 0, 0, 0, 0, [])), (124, (2, 125, 3, 0, 0, 0, 0, [])), (125, (45, 126, 0, 0, 0, 0, 0, [])), (126, (8, 129, 2, 0, 0, 1, 0, [])), (129, (26, 132, 0, 11, 0, 0, 0, [])), (132, (8, 135, 1, 0, 0, -1, 0, [])), (135, (26, 138, 0, 5, 0, 0, 0, [])), (138, (55, 139, 0, 0, 0, 0, 0, []))], [(5, [2, 3, 4, 5]), (11, [3, 4, 5]), (41, [5]), (58, [5]), (114, [4, 5])])
def tx_M_isTrodden : Tx := ([(0, (4, 1, 0, 0, 0, 0, 0, [])), (1, (31, 4, 12, 17, 20, 0, 0, [])), (4, (0, 6, 0, 0, 0, 41, 0, [])), (6, (2, 7, 1, 0, 0, 0, 0, [])), (7, (9, 8, 0, 0, 0, 0, 0, [])), (8, (37, 9, 0, 0, 0, 0, 0, [])), (9, (0, 10, 0, 0, 0, 1, 0, [])), (10, (24, 13, 1, 17, 0, 0, 0, [])), (13, (0, 14, 0, 0, 0, 1, 0, [])), (14, (26, 17, 0, 18, 0, 0, 0, [])), (17, (0, 18, 0, 0, 0, 0, 0, [])), (18, (53, 19, 1, 0, 0, 0, 0, []))], [])
def tx_M_finds : Tx := ([(0, (2, 1, 1, 0, 0, 0, 0, [])), (1, (0, 2, 0, 0, 0, 1, 0, [])), (2, (9, 3, 0, 0, 0, 0, 0, [])), (3, (5, 4, 2, 0, 0, 0, 0, [])), (4, (2, 5, 2, 0, 0, 0, 0, [])), (5, (4, 6, 0, 0, 0, 0, 0, [])), (6, (50, 9, 176, 1, 1, 0, 0, [12])), (9, (24, 12, 3, 87, 0, 0, 0, [])), (12, (4, 13, 0, 0, 0, 0, 0, [])), (13, (2, 14, 2, 0, 0, 0, 0, [])), (14, (50, 17, 231, 2, 1, 0, 0, [12])), (17, (25, 20, 0, 81, 0, 0, 0, [])), (20, (4, 21, 0, 0, 0, 0, 0, [])), (21, (31, 24, 12, 33, 23, 0, 0, [])), (24, (0, 26, 0, 0, 0, 41, 0, [])), (26, (2, 27, 1, 0, 0, 0, 0, [])), (27, (9, 28, 2, 0, 0, 0, 0, [])), (28, (2, 29, 2, 0, 0, 0, 0, [])), (29, (9, 30, 0, 0, 0, 0, 0, [])), (30, (40, 31, 0, 0, 0, 0, 0, [])), (31, (25, 34, 0, 81, 0, 0, 0, [])), (34, (4, 35, 0, 0, 0, 0, 0, [])), (35, (31, 38, 12, 35, 23, 0, 0, [])), (38, (2, 39, 2, 0, 0, 0, 0, [])), (39, (40, 40, 0, 0, 0, 0, 0, [])), (40, (25, 43, 1, 81, 0, 0, 0, [])), (43, (4, 44, 0, 0, 0, 0, 0, [])), (44, (31, 47, 12, 35, 23, 0, 0, [])), (47, (2, 48, 2, 0, 0, 0, 0, [])), (48, (0, 49, 0, 0, 0, 1, 0, [])), (49, (45, 50, 0, 0, 0, 0, 0, [])), (50, (4, 51, 0, 0, 0, 0, 0, [])), (51, (31, 54, 12, 34, 20, 0, 0, [])), (54, (2, 55, 2, 0, 0, 0, 0, [])), (55, (37, 56, 0, 0, 0, 0, 0, [])), (56, (25, 59, 2, 72, 0, 0, 0, [])), (59, (4, 60, 0, 0, 0, 0, 0, [])), (60, (4, 61, 0, 0, 0, 0, 0, [])), (61, (31, 64, 12, 34, 20, 0, 0, [])), (64, (2, 65, 2, 0, 0, 0, 0, [])), (65, (37, 66, 0, 0, 0, 0, 0, [])), (66, (50, 69, 232, 2, 1, 0, 0, [12])), (69, (25, 72, 0, 81, 0, 0, 0, [])), (72, (4, 73, 0, 0, 0, 0, 0, [])), (73, (31, 76, 12, 34, 20, 0, 0, [])), (76, (2, 77, 2, 0, 0, 0, 0, [])), (77, (2, 78, 1, 0, 0, 0, 0, [])), (78, (42, 79, 0, 0, 0, 0, 0, [])), (79, (0, 80, 0, 0, 0, 1, 0, [])), (80, (53, 81, 1, 0, 0, 0, 0, [])), (81, (8, 84, 2, 0, 0, 1, 0, [])), (84, (26, 87, 0, 4, 0, 0, 0, [])), (87, (0, 88, 0, 0, 0, 0, 0, [])), (88, (53, 89, 1, 0, 0, 0, 0, []))], [(4, []), (20, [])])
def tx_M_fewest : Tx := ([(0, (4, 1, 0, 0, 0, 0, 0, [])), (1, (0, 2, 0, 0, 0, 0, 0, [])), (2, (32, 5, 12, 0, 0, 0, 0, [])), (5, (4, 6, 0, 0, 0, 0, 0, [])), (6, (50, 9, 230, 1, 0, 0, 0, [12])), (9, (0, 10, 0, 0, 0, 0, 0, [])), (10, (5, 11, 1, 0, 0, 0, 0, [])), (11, (0, 12, 0, 0, 0, 1, 0, [])), (12, (5, 13, 2, 0, 0, 0, 0, [])), (13, (2, 14, 2, 0, 0, 0, 0, [])), (14, (4, 15, 0, 0, 0, 0, 0, [])), (15, (50, 18, 176, 1, 1, 0, 0, [12])), (18, (24, 21, 3, 86, 0, 0, 0, [])), (21, (4, 22, 0, 0, 0, 0, 0, [])), (22, (2, 23, 2, 0, 0, 0, 0, [])), (23, (50, 26, 231, 2, 1, 0, 0, [12])), (26, (25, 29, 0, 57, 0, 0, 0, [])), (29, (4, 30, 0, 0, 0, 0, 0, [])), (30, (31, 33, 12, 33, 23, 0, 0, [])), (33, (2, 34, 2, 0, 0, 0, 0, [])), (34, (40, 35, 0, 0, 0, 0, 0, [])), (35, (25, 38, 0, 55, 0, 0, 0, [])), (38, (4, 39, 0, 0, 0, 0, 0, [])), (39, (31, 42, 12, 33, 23, 0, 0, [])), (42, (0, 44, 0, 0, 0, 41, 0, [])), (44, (2, 45, 2, 0, 0, 0, 0, [])), (45, (9, 46, 2, 0, 0, 0, 0, [])), (46, (4, 47, 0, 0, 0, 0, 0, [])), (47, (50, 50, 176, 1, 1, 0, 0, [12])), (50, (9, 51, 0, 0, 0, 0, 0, [])), (51, (40, 52, 0, 0, 0, 0, 0, [])), (52, (25, 55, 1, 57, 0, 0, 0, [])), (55, (0, 56, 0, 0, 0, -1, 0, [])), (56, (53, 57, 0, 0, 0, 0, 0, [])), (57, (2, 58, 1, 0, 0, 0, 0, [])), (58, (4, 59, 0, 0, 0, 0, 0, [])), (59, (2, 60, 2, 0, 0, 0, 0, [])), (60, (50, 63, 231, 2, 1, 0, 0, [12])), (63, (25, 66, 0, 70, 0, 0, 0, [])), (66, (0, 67, 0, 0, 0, 1, 0, [])), (67, (26, 70, 0, 71, 0, 0, 0, [])), (70, (0, 71, 0, 0, 0, 0, 0, [])), (71, (9, 72, 0, 0, 0, 0, 0, [])), (72, (5, 73, 1, 0, 0, 0, 0, [])), (73, (4, 74, 0, 0, 0, 0, 0, [])), (74, (31, 77, 12, 34, 20, 0, 0, [])), (77, (2, 78, 2, 0, 0, 0, 0, [])), (78, (0, 79, 0, 0, 0, -1, 0, [])), (79, (42, 80, 0, 0, 0, 0, 0, [])), (80, (8, 83, 2, 0, 0, 1, 0, [])), (83, (26, 86, 0, 13, 0, 0, 0, [])), (86, (0, 87, 0, 0, 0, 1, 0, [])), (87, (5, 88, 2, 0, 0, 0, 0, [])), (88, (2, 89, 2, 0, 0, 0, 0, [])), (89, (4, 90, 0, 0, 0, 0, 0, [])), (90, (50, 93, 176, 1, 1, 0, 0, [12])), (93, (24, 96, 3, 147, 0, 0, 0, [])), (96, (0, 97, 0, 0, 0, 0, 0, [])), (97, (5, 98, 3, 0, 0, 0, 0, [])), (98, (2, 99, 3, 0, 0, 0, 0, [])), (99, (0, 101, 0, 0, 0, 40, 0, [])), (101, (24, 104, 4, 117, 0, 0, 0, [])), (104, (4, 105, 0, 0, 0, 0, 0, [])), (105, (31, 108, 12, 35, 23, 0, 0, [])), (108, (2, 109, 3, 0, 0, 0, 0, [])), (109, (0, 110, 0, 0, 0, 0, 0, [])), (110, (45, 111, 0, 0, 0, 0, 0, [])), (111, (8, 114, 3, 0, 0, 1, 0, [])), (114, (26, 117, 0, 98, 0, 0, 0, [])), (117, (2, 118, 1, 0, 0, 0, 0, [])), (118, (4, 119, 0, 0, 0, 0, 0, [])), (119, (2, 120, 2, 0, 0, 0, 0, [])), (120, (50, 123, 231, 2, 1, 0, 0, [12])), (123, (25, 126, 0, 138, 0, 0, 0, [])), (126, (4, 127, 0, 0, 0, 0, 0, [])), (127, (2, 128, 2, 0, 0, 0, 0, [])), (128, (50, 131, 232, 2, 1, 0, 0, [12])), (131, (25, 134, 0, 138, 0, 0, 0, [])), (134, (0, 135, 0, 0, 0, 1, 0, [])), (135, (26, 138, 0, 139, 0, 0, 0, [])), (138, (0, 139, 0, 0, 0, 0, 0, [])), (139, (9, 140, 1, 0, 0, 0, 0, [])), (140, (5, 141, 1, 0, 0, 0, 0, [])), (141, (8, 144, 2, 0, 0, 1, 0, [])), (144, (26, 147, 0, 88, 0, 0, 0, [])), (147, (2, 148, 1, 0, 0, 0, 0, [])), (148, (53, 149, 0, 0, 0, 0, 0, []))], [(13, [3]), (57, [3]), (71, [1, 3]), (88, [3]), (98, [])])
def tx_M_still : Tx := ([(0, (4, 1, 0, 0, 0, 0, 0, [])), (1, (0, 2, 0, 0, 0, 0, 0, [])), (2, (32, 5, 12, 0, 0, 0, 0, [])), (5, (2, 6, 1, 0, 0, 0, 0, [])), (6, (0, 7, 0, 0, 0, 1, 0, [])), (7, (0, 10, 0, 0, 0, 999, 0, [])), (10, (50, 13, 154, 3, 1, 0, 0, [])), (13, (25, 16, 0, 66, 0, 0, 0, [])), (16, (2, 17, 2, 0, 0, 0, 0, [])), (17, (0, 18, 0, 0, 0, 1, 0, [])), (18, (0, 21, 0, 0, 0, 999, 0, [])), (21, (50, 24, 154, 3, 1, 0, 0, [])), (24, (25, 27, 0, 66, 0, 0, 0, [])), (27, (2, 28, 3, 0, 0, 0, 0, [])), (28, (0, 29, 0, 0, 0, 1, 0, [])), (29, (0, 32, 0, 0, 0, 999, 0, [])), (32, (50, 35, 154, 3, 1, 0, 0, [])), (35, (25, 38, 0, 66, 0, 0, 0, [])), (38, (2, 40, 4, 0, 0, 0, 0, [])), (40, (0, 41, 0, 0, 0, 1, 0, [])), (41, (0, 44, 0, 0, 0, 999, 0, [])), (44, (50, 47, 154, 3, 1, 0, 0, [])), (47, (25, 50, 0, 66, 0, 0, 0, [])), (50, (2, 52, 5, 0, 0, 0, 0, [])), (52, (0, 53, 0, 0, 0, 0, 0, [])), (53, (0, 54, 0, 0, 0, 1, 0, [])), (54, (50, 57, 154, 3, 1, 0, 0, [])), (57, (25, 60, 0, 66, 0, 0, 0, [])), (60, (2, 61, 2, 0, 0, 0, 0, [])), (61, (2, 63, 4, 0, 0, 0, 0, [])), (63, (24, 66, 1, 68, 0, 0, 0, [])), (66, (0, 67, 0, 0, 0, -1, 0, [])), (67, (53, 68, 0, 0, 0, 0, 0, [])), (68, (2, 69, 1, 0, 0, 0, 0, [])), (69, (2, 71, 4, 0, 0, 0, 0, [])), (71, (9, 72, 2, 0, 0, 0, 0, [])), (72, (2, 73, 2, 0, 0, 0, 0, [])), (73, (2, 74, 3, 0, 0, 0, 0, [])), (74, (9, 75, 2, 0, 0, 0, 0, [])), (75, (9, 76, 1, 0, 0, 0, 0, [])), (76, (5, 78, 6, 0, 0, 0, 0, [])), (78, (2, 80, 4, 0, 0, 0, 0, [])), (80, (2, 81, 2, 0, 0, 0, 0, [])), (81, (9, 82, 1, 0, 0, 0, 0, [])), (82, (5, 84, 7, 0, 0, 0, 0, [])), (84, (2, 86, 7, 0, 0, 0, 0, [])), (86, (25, 89, 3, 95, 0, 0, 0, [])), (89, (2, 91, 6, 0, 0, 0, 0, [])), (91, (12, 92, 0, 0, 0, 0, 0, [])), (92, (26, 95, 0, 97, 0, 0, 0, [])), (95, (2, 97, 6, 0, 0, 0, 0, [])), (97, (5, 99, 6, 0, 0, 0, 0, [])), (99, (2, 101, 7, 0, 0, 0, 0, [])), (101, (25, 104, 3, 110, 0, 0, 0, [])), (104, (2, 106, 7, 0, 0, 0, 0, [])), (106, (12, 107, 0, 0, 0, 0, 0, [])), (107, (26, 110, 0, 112, 0, 0, 0, [])), (110, (2, 112, 7, 0, 0, 0, 0, [])), (112, (5, 114, 7, 0, 0, 0, 0, [])), (114, (2, 116, 6, 0, 0, 0, 0, [])), (116, (25, 119, 4, 121, 0, 0, 0, [])), (119, (0, 120, 0, 0, 0, -1, 0, [])), (120, (53, 121, 0, 0, 0, 0, 0, [])), (121, (2, 123, 6, 0, 0, 0, 0, [])), (123, (5, 125, 8, 0, 0, 0, 0, [])), (125, (2, 127, 7, 0, 0, 0, 0, [])), (127, (5, 129, 9, 0, 0, 0, 0, [])), (129, (2, 131, 9, 0, 0, 0, 0, [])), (131, (25, 134, 0, 152, 0, 0, 0, [])), (134, (2, 136, 8, 0, 0, 0, 0, [])), (136, (2, 138, 9, 0, 0, 0, 0, [])), (138, (11, 139, 0, 0, 0, 0, 0, [])), (139, (5, 141, 10, 0, 0, 0, 0, [])), (141, (2, 143, 9, 0, 0, 0, 0, [])), (143, (5, 145, 8, 0, 0, 0, 0, [])), (145, (2, 147, 10, 0, 0, 0, 0, [])), (147, (5, 149, 9, 0, 0, 0, 0, [])), (149, (26, 152, 0, 129, 0, 0, 0, [])), (152, (2, 154, 5, 0, 0, 0, 0, [])), (154, (25, 157, 1, 165, 0, 0, 0, [])), (157, (2, 159, 6, 0, 0, 0, 0, [])), (159, (2, 161, 8, 0, 0, 0, 0, [])), (161, (10, 162, 0, 0, 0, 0, 0, [])), (162, (26, 165, 0, 170, 0, 0, 0, [])), (165, (2, 167, 7, 0, 0, 0, 0, [])), (167, (2, 169, 8, 0, 0, 0, 0, [])), (169, (10, 170, 0, 0, 0, 0, 0, [])), (170, (53, 171, 0, 0, 0, 0, 0, []))], [(50, [0, 6, 7, 8, 9, 10]), (112, [0, 1, 2, 3, 4, 7, 8, 9, 10]), (129, [0, 1, 2, 3, 4, 10])])
def tx_M_draw : Tx := ([(0, (4, 1, 0, 0, 0, 0, 0, [])), (1, (4, 2, 0, 0, 0, 0, 0, [])), (2, (30, 5, 12, 36, 0, 0, 0, [])), (5, (1, 8, 422, 0, 0, 0, 1103515245, [])), (8, (13, 9, 2, 0, 0, 0, 0, [])), (9, (1, 12, 424, 0, 0, 0, 12345, [])), (12, (13, 13, 0, 0, 0, 0, 0, [])), (13, (1, 16, 426, 0, 0, 0, 2147483648, [])), (16, (17, 17, 0, 0, 0, 0, 0, [])), (17, (34, 20, 12, 36, 0, 0, 0, [])), (20, (4, 21, 0, 0, 0, 0, 0, [])), (21, (30, 24, 12, 36, 0, 0, 0, [])), (24, (1, 27, 428, 0, 0, 0, 65536, [])), (27, (16, 28, 0, 0, 0, 0, 0, [])), (28, (2, 29, 1, 0, 0, 0, 0, [])), (29, (18, 30, 0, 0, 0, 0, 0, [])), (30, (17, 31, 0, 0, 0, 0, 0, [])), (31, (19, 32, 0, 0, 0, 0, 0, [])), (32, (53, 33, 0, 0, 0, 0, 0, []))], [])
def tx_M_fair : Tx := ([(0, (4, 1, 0, 0, 0, 0, 0, [])), (1, (0, 2, 0, 0, 0, 0, 0, [])), (2, (32, 5, 12, 0, 0, 0, 0, [])), (5, (4, 6, 0, 0, 0, 0, 0, [])), (6, (0, 7, 0, 0, 0, 0, 0, [])), (7, (33, 10, 12, 24, 0, 0, 0, [])), (10, (2, 11, 1, 0, 0, 0, 0, [])), (11, (0, 12, 0, 0, 0, 0, 0, [])), (12, (0, 15, 0, 0, 0, 9999, 0, [])), (15, (50, 18, 154, 3, 1, 0, 0, [])), (18, (25, 21, 0, 25, 0, 0, 0, [])), (21, (2, 22, 2, 0, 0, 0, 0, [])), (22, (25, 25, 3, 27, 0, 0, 0, [])), (25, (0, 26, 0, 0, 0, -1, 0, [])), (26, (53, 27, 0, 0, 0, 0, 0, [])), (27, (4, 28, 0, 0, 0, 0, 0, [])), (28, (50, 31, 183, 1, 0, 0, 0, [12])), (31, (4, 32, 0, 0, 0, 0, 0, [])), (32, (0, 33, 0, 0, 0, -1, 0, [])), (33, (0, 34, 0, 0, 0, 0, 0, [])), (34, (50, 37, 194, 3, 0, 0, 0, [12])), (37, (4, 38, 0, 0, 0, 0, 0, [])), (38, (31, 41, 12, 23, 21, 0, 0, [])), (41, (4, 42, 0, 0, 0, 0, 0, [])), (42, (50, 45, 197, 1, 1, 0, 0, [12])), (45, (38, 46, 0, 0, 0, 0, 0, [])), (46, (6, 47, 3, 0, 0, 0, 0, [])), (47, (3, 48, 3, 0, 0, 0, 0, [])), (48, (1, 49, 0, 0, 0, 0, 0, [])), (49, (21, 50, 0, 0, 0, 0, 0, [])), (50, (25, 53, 1, 55, 0, 0, 0, [])), (53, (0, 54, 0, 0, 0, -1, 0, [])), (54, (53, 55, 0, 0, 0, 0, 0, [])), (55, (4, 56, 0, 0, 0, 0, 0, [])), (56, (2, 57, 1, 0, 0, 0, 0, [])), (57, (18, 58, 0, 0, 0, 0, 0, [])), (58, (34, 61, 12, 36, 0, 0, 0, [])), (61, (4, 62, 0, 0, 0, 0, 0, [])), (62, (0, 65, 430, 0, 0, 32768, 0, [])), (65, (50, 68, 235, 2, 1, 0, 0, [12])), (68, (18, 69, 0, 0, 0, 0, 0, [])), (69, (6, 71, 5, 0, 0, 0, 0, [])), (71, (3, 73, 5, 0, 0, 0, 0, [])), (73, (1, 76, 434, 0, 0, 0, 32768, [])), (76, (13, 77, 2, 0, 0, 0, 0, [])), (77, (4, 78, 0, 0, 0, 0, 0, [])), (78, (0, 81, 430, 0, 0, 32768, 0, [])), (81, (50, 84, 235, 2, 1, 0, 0, [12])), (84, (18, 85, 0, 0, 0, 0, 0, [])), (85, (13, 86, 0, 0, 0, 0, 0, [])), (86, (6, 88, 5, 0, 0, 0, 0, [])), (88, (3, 90, 5, 0, 0, 0, 0, [])), (90, (1, 93, 434, 0, 0, 0, 32768, [])), (93, (13, 94, 2, 0, 0, 0, 0, [])), (94, (4, 95, 0, 0, 0, 0, 0, [])), (95, (0, 98, 430, 0, 0, 32768, 0, [])), (98, (50, 101, 235, 2, 1, 0, 0, [12])), (101, (18, 102, 0, 0, 0, 0, 0, [])), (102, (13, 103, 0, 0, 0, 0, 0, [])), (103, (6, 105, 5, 0, 0, 0, 0, [])), (105, (4, 106, 0, 0, 0, 0, 0, [])), (106, (3, 108, 5, 0, 0, 0, 0, [])), (108, (3, 109, 3, 0, 0, 0, 0, [])), (109, (17, 110, 0, 0, 0, 0, 0, [])), (110, (2, 111, 2, 0, 0, 0, 0, [])), (111, (50, 114, 209, 3, 1, 0, 0, [12])), (114, (53, 115, 0, 0, 0, 0, 0, []))], [(27, [3, 4, 5, 6])])
def tx_M_climb : Tx := ([(0, (4, 1, 0, 0, 0, 0, 0, [])), (1, (0, 2, 0, 0, 0, 0, 0, [])), (2, (32, 5, 12, 0, 0, 0, 0, [])), (5, (4, 6, 0, 0, 0, 0, 0, [])), (6, (0, 7, 0, 0, 0, 0, 0, [])), (7, (33, 10, 12, 24, 0, 0, 0, [])), (10, (2, 11, 1, 0, 0, 0, 0, [])), (11, (0, 12, 0, 0, 0, 0, 0, [])), (12, (0, 15, 0, 0, 0, 9999, 0, [])), (15, (50, 18, 154, 3, 1, 0, 0, [])), (18, (25, 21, 0, 30, 0, 0, 0, [])), (21, (2, 22, 2, 0, 0, 0, 0, [])), (22, (0, 23, 0, 0, 0, 0, 0, [])), (23, (0, 24, 0, 0, 0, 1, 0, [])), (24, (50, 27, 154, 3, 1, 0, 0, [])), (27, (25, 30, 1, 32, 0, 0, 0, [])), (30, (0, 31, 0, 0, 0, -1, 0, [])), (31, (53, 32, 0, 0, 0, 0, 0, [])), (32, (4, 33, 0, 0, 0, 0, 0, [])), (33, (2, 34, 1, 0, 0, 0, 0, [])), (34, (18, 35, 0, 0, 0, 0, 0, [])), (35, (34, 38, 12, 36, 0, 0, 0, [])), (38, (0, 39, 0, 0, 0, 0, 0, [])), (39, (5, 40, 3, 0, 0, 0, 0, [])), (40, (0, 41, 0, 0, 0, 0, 0, [])), (41, (5, 43, 4, 0, 0, 0, 0, [])), (43, (0, 44, 0, 0, 0, 0, 0, [])), (44, (5, 46, 5, 0, 0, 0, 0, [])), (46, (0, 47, 0, 0, 0, 0, 0, [])), (47, (5, 49, 6, 0, 0, 0, 0, [])), (49, (0, 50, 0, 0, 0, 0, 0, [])), (50, (5, 52, 7, 0, 0, 0, 0, [])), (52, (0, 53, 0, 0, 0, 1, 0, [])), (53, (5, 55, 8, 0, 0, 0, 0, [])), (55, (2, 57, 8, 0, 0, 0, 0, [])), (57, (25, 60, 5, 235, 0, 0, 0, [])), (60, (0, 61, 0, 0, 0, 0, 0, [])), (61, (5, 63, 8, 0, 0, 0, 0, [])), (63, (0, 64, 0, 0, 0, 0, 0, [])), (64, (5, 66, 9, 0, 0, 0, 0, [])), (66, (2, 68, 9, 0, 0, 0, 0, [])), (68, (4, 69, 0, 0, 0, 0, 0, [])), (69, (50, 72, 177, 1, 1, 0, 0, [12])), (72, (24, 75, 3, 101, 0, 0, 0, [])), (75, (2, 77, 8, 0, 0, 0, 0, [])), (77, (4, 78, 0, 0, 0, 0, 0, [])), (78, (2, 79, 3, 0, 0, 0, 0, [])), (79, (2, 81, 4, 0, 0, 0, 0, [])), (81, (2, 83, 5, 0, 0, 0, 0, [])), (83, (2, 85, 6, 0, 0, 0, 0, [])), (85, (2, 87, 7, 0, 0, 0, 0, [])), (87, (2, 89, 9, 0, 0, 0, 0, [])), (89, (50, 92, 214, 7, 1, 0, 0, [12])), (92, (9, 93, 0, 0, 0, 0, 0, [])), (93, (5, 95, 8, 0, 0, 0, 0, [])), (95, (8, 98, 9, 0, 0, 1, 0, [])), (98, (26, 101, 0, 66, 0, 0, 0, [])), (101, (2, 103, 8, 0, 0, 0, 0, [])), (103, (25, 106, 5, 55, 0, 0, 0, [])), (106, (4, 107, 0, 0, 0, 0, 0, [])), (107, (2, 109, 8, 0, 0, 0, 0, [])), (109, (50, 112, 235, 2, 1, 0, 0, [12])), (112, (5, 114, 9, 0, 0, 0, 0, [])), (114, (0, 115, 0, 0, 0, 0, 0, [])), (115, (5, 117, 10, 0, 0, 0, 0, [])), (117, (2, 119, 9, 0, 0, 0, 0, [])), (119, (4, 120, 0, 0, 0, 0, 0, [])), (120, (2, 121, 3, 0, 0, 0, 0, [])), (121, (2, 123, 4, 0, 0, 0, 0, [])), (123, (2, 125, 5, 0, 0, 0, 0, [])), (125, (2, 127, 6, 0, 0, 0, 0, [])), (127, (2, 129, 7, 0, 0, 0, 0, [])), (129, (2, 131, 10, 0, 0, 0, 0, [])), (131, (50, 134, 214, 7, 1, 0, 0, [12])), (134, (24, 137, 2, 163, 0, 0, 0, [])), (137, (2, 139, 9, 0, 0, 0, 0, [])), (139, (4, 140, 0, 0, 0, 0, 0, [])), (140, (2, 141, 3, 0, 0, 0, 0, [])), (141, (2, 143, 4, 0, 0, 0, 0, [])), (143, (2, 145, 5, 0, 0, 0, 0, [])), (145, (2, 147, 6, 0, 0, 0, 0, [])), (147, (2, 149, 7, 0, 0, 0, 0, [])), (149, (2, 151, 10, 0, 0, 0, 0, [])), (151, (50, 154, 214, 7, 1, 0, 0, [12])), (154, (9, 155, 1, 0, 0, 0, 0, [])), (155, (5, 157, 9, 0, 0, 0, 0, [])), (157, (8, 160, 10, 0, 0, 1, 0, [])), (160, (26, 163, 0, 117, 0, 0, 0, [])), (163, (2, 164, 3, 0, 0, 0, 0, [])), (164, (4, 165, 0, 0, 0, 0, 0, [])), (165, (2, 167, 10, 0, 0, 0, 0, [])), (167, (50, 170, 178, 2, 1, 0, 0, [12])), (170, (9, 171, 0, 0, 0, 0, 0, [])), (171, (5, 172, 3, 0, 0, 0, 0, [])), (172, (2, 174, 10, 0, 0, 0, 0, [])), (174, (0, 175, 0, 0, 0, 1, 0, [])), (175, (9, 176, 0, 0, 0, 0, 0, [])), (176, (5, 178, 4, 0, 0, 0, 0, [])), (178, (2, 180, 5, 0, 0, 0, 0, [])), (180, (4, 181, 0, 0, 0, 0, 0, [])), (181, (2, 182, 3, 0, 0, 0, 0, [])), (182, (50, 185, 179, 2, 1, 0, 0, [12])), (185, (0, 186, 0, 0, 0, 2, 0, [])), (186, (24, 189, 1, 202, 0, 0, 0, [])), (189, (4, 190, 0, 0, 0, 0, 0, [])), (190, (31, 193, 12, 10, 20, 0, 0, [])), (193, (0, 194, 0, 0, 0, 1, 0, [])), (194, (37, 195, 0, 0, 0, 0, 0, [])), (195, (25, 198, 2, 202, 0, 0, 0, [])), (198, (0, 199, 0, 0, 0, 1, 0, [])), (199, (26, 202, 0, 203, 0, 0, 0, [])), (202, (0, 203, 0, 0, 0, 0, 0, [])), (203, (9, 204, 0, 0, 0, 0, 0, [])), (204, (5, 206, 5, 0, 0, 0, 0, [])), (206, (2, 208, 6, 0, 0, 0, 0, [])), (208, (4, 209, 0, 0, 0, 0, 0, [])), (209, (4, 210, 0, 0, 0, 0, 0, [])), (210, (2, 212, 10, 0, 0, 0, 0, [])), (212, (50, 215, 178, 2, 1, 0, 0, [12])), (215, (50, 218, 182, 2, 1, 0, 0, [12])), (218, (25, 221, 0, 225, 0, 0, 0, [])), (221, (0, 222, 0, 0, 0, 1, 0, [])), (222, (26, 225, 0, 226, 0, 0, 0, [])), (225, (0, 226, 0, 0, 0, 0, 0, [])), (226, (9, 227, 0, 0, 0, 0, 0, [])), (227, (5, 229, 6, 0, 0, 0, 0, [])), (229, (8, 232, 7, 0, 0, 1, 0, [])), (232, (26, 235, 0, 55, 0, 0, 0, [])), (235, (2, 236, 2, 0, 0, 0, 0, [])), (236, (25, 239, 1, 243, 0, 0, 0, [])), (239, (2, 240, 3, 0, 0, 0, 0, [])), (240, (26, 243, 0, 245, 0, 0, 0, [])), (243, (2, 245, 7, 0, 0, 0, 0, [])), (245, (53, 246, 0, 0, 0, 0, 0, []))], [(55, [1, 9, 10]), (66, [1, 10]), (117, [1]), (203, [1, 5, 9])])
def tx_M_mark : Tx := ([(0, (4, 1, 0, 0, 0, 0, 0, [])), (1, (0, 2, 0, 0, 0, 0, 0, [])), (2, (32, 5, 12, 0, 0, 0, 0, [])), (5, (2, 6, 1, 0, 0, 0, 0, [])), (6, (0, 7, 0, 0, 0, 0, 0, [])), (7, (0, 8, 0, 0, 0, 3, 0, [])), (8, (50, 11, 154, 3, 1, 0, 0, [])), (11, (25, 14, 0, 27, 0, 0, 0, [])), (14, (2, 15, 2, 0, 0, 0, 0, [])), (15, (25, 18, 0, 29, 0, 0, 0, [])), (18, (4, 19, 0, 0, 0, 0, 0, [])), (19, (31, 22, 12, 18, 23, 0, 0, [])), (22, (2, 23, 1, 0, 0, 0, 0, [])), (23, (40, 24, 0, 0, 0, 0, 0, [])), (24, (25, 27, 1, 29, 0, 0, 0, [])), (27, (0, 28, 0, 0, 0, 0, 0, [])), (28, (53, 29, 1, 0, 0, 0, 0, [])), (29, (4, 30, 0, 0, 0, 0, 0, [])), (30, (31, 33, 12, 18, 23, 0, 0, [])), (33, (2, 34, 1, 0, 0, 0, 0, [])), (34, (0, 35, 0, 0, 0, 1, 0, [])), (35, (45, 36, 0, 0, 0, 0, 0, [])), (36, (2, 37, 2, 0, 0, 0, 0, [])), (37, (25, 40, 0, 46, 0, 0, 0, [])), (40, (0, 41, 0, 0, 0, 1, 0, [])), (41, (2, 42, 1, 0, 0, 0, 0, [])), (42, (9, 43, 0, 0, 0, 0, 0, [])), (43, (26, 46, 0, 47, 0, 0, 0, [])), (46, (0, 47, 0, 0, 0, 0, 0, [])), (47, (5, 48, 3, 0, 0, 0, 0, [])), (48, (2, 49, 2, 0, 0, 0, 0, [])), (49, (25, 52, 0, 56, 0, 0, 0, [])), (52, (0, 53, 0, 0, 0, 0, 0, [])), (53, (26, 56, 0, 59, 0, 0, 0, [])), (56, (0, 57, 0, 0, 0, 1, 0, [])), (57, (2, 58, 1, 0, 0, 0, 0, [])), (58, (9, 59, 0, 0, 0, 0, 0, [])), (59, (5, 61, 4, 0, 0, 0, 0, [])), (61, (0, 62, 0, 0, 0, 0, 0, [])), (62, (5, 64, 5, 0, 0, 0, 0, [])), (64, (2, 66, 5, 0, 0, 0, 0, [])), (66, (0, 68, 0, 0, 0, 84, 0, [])), (68, (24, 71, 3, 102, 0, 0, 0, [])), (71, (4, 72, 0, 0, 0, 0, 0, [])), (72, (31, 75, 12, 17, 20, 0, 0, [])), (75, (0, 77, 0, 0, 0, 84, 0, [])), (77, (2, 79, 4, 0, 0, 0, 0, [])), (79, (9, 80, 2, 0, 0, 0, 0, [])), (80, (2, 82, 5, 0, 0, 0, 0, [])), (82, (9, 83, 0, 0, 0, 0, 0, [])), (83, (4, 84, 0, 0, 0, 0, 0, [])), (84, (31, 87, 12, 17, 20, 0, 0, [])), (87, (0, 89, 0, 0, 0, 84, 0, [])), (89, (2, 90, 3, 0, 0, 0, 0, [])), (90, (9, 91, 2, 0, 0, 0, 0, [])), (91, (2, 93, 5, 0, 0, 0, 0, [])), (93, (9, 94, 0, 0, 0, 0, 0, [])), (94, (37, 95, 0, 0, 0, 0, 0, [])), (95, (42, 96, 0, 0, 0, 0, 0, [])), (96, (8, 99, 5, 0, 0, 1, 0, [])), (99, (26, 102, 0, 64, 0, 0, 0, [])), (102, (0, 103, 0, 0, 0, 1, 0, [])), (103, (53, 104, 1, 0, 0, 0, 0, []))], [(29, [3, 4, 5]), (47, [3, 4, 5]), (64, [1, 2])])
def tx_M_count : Tx := ([(0, (4, 1, 0, 0, 0, 0, 0, [])), (1, (0, 2, 0, 0, 0, 0, 0, [])), (2, (32, 5, 12, 0, 0, 0, 0, [])), (5, (4, 6, 0, 0, 0, 0, 0, [])), (6, (50, 9, 183, 1, 0, 0, 0, [12])), (9, (2, 10, 1, 0, 0, 0, 0, [])), (10, (27, 56, 0, 99, 0, 0, 0, [56, 61, 66, 71, 76, 81, 86, 94])), (56, (4, 57, 0, 0, 0, 0, 0, [])), (57, (50, 60, 176, 1, 1, 0, 0, [12])), (60, (53, 61, 0, 0, 0, 0, 0, [])), (61, (4, 62, 0, 0, 0, 0, 0, [])), (62, (29, 65, 12, 19, 0, 0, 0, [])), (65, (53, 66, 0, 0, 0, 0, 0, [])), (66, (4, 67, 0, 0, 0, 0, 0, [])), (67, (50, 70, 180, 1, 1, 0, 0, [12])), (70, (53, 71, 0, 0, 0, 0, 0, [])), (71, (4, 72, 0, 0, 0, 0, 0, [])), (72, (29, 75, 12, 21, 0, 0, 0, [])), (75, (53, 76, 0, 0, 0, 0, 0, [])), (76, (4, 77, 0, 0, 0, 0, 0, [])), (77, (29, 80, 12, 22, 0, 0, 0, [])), (80, (53, 81, 0, 0, 0, 0, 0, [])), (81, (4, 82, 0, 0, 0, 0, 0, [])), (82, (50, 85, 177, 1, 1, 0, 0, [12])), (85, (53, 86, 0, 0, 0, 0, 0, [])), (86, (4, 87, 0, 0, 0, 0, 0, [])), (87, (31, 90, 12, 10, 20, 0, 0, [])), (90, (0, 92, 0, 0, 0, 15, 0, [])), (92, (37, 93, 0, 0, 0, 0, 0, [])), (93, (53, 94, 0, 0, 0, 0, 0, [])), (94, (4, 95, 0, 0, 0, 0, 0, [])), (95, (29, 98, 12, 2, 0, 0, 0, [])), (98, (53, 99, 0, 0, 0, 0, 0, [])), (99, (0, 100, 0, 0, 0, -1, 0, [])), (100, (53, 101, 0, 0, 0, 0, 0, []))], [])
def tx_JMath_max : Tx := ([(0, (2, 1, 0, 0, 0, 0, 0, [])), (1, (2, 2, 1, 0, 0, 0, 0, [])), (2, (24, 5, 2, 9, 0, 0, 0, [])), (5, (2, 6, 0, 0, 0, 0, 0, [])), (6, (26, 9, 0, 10, 0, 0, 0, [])), (9, (2, 10, 1, 0, 0, 0, 0, [])), (10, (53, 11, 0, 0, 0, 0, 0, []))], [])
def tx_JMath_min : Tx := ([(0, (2, 1, 0, 0, 0, 0, 0, [])), (1, (2, 2, 1, 0, 0, 0, 0, [])), (2, (24, 5, 4, 9, 0, 0, 0, [])), (5, (2, 6, 0, 0, 0, 0, 0, [])), (6, (26, 9, 0, 10, 0, 0, 0, [])), (9, (2, 10, 1, 0, 0, 0, 0, [])), (10, (53, 11, 0, 0, 0, 0, 0, []))], [])
def tx_JStr_length : Tx := ([(0, (4, 1, 0, 0, 0, 0, 0, [])), (1, (57, 4, 0, 0, 0, 0, 0, [])), (4, (36, 5, 0, 0, 0, 0, 0, [])), (5, (4, 6, 0, 0, 0, 0, 0, [])), (6, (50, 9, 243, 1, 1, 0, 0, [40])), (9, (9, 10, 7, 0, 0, 0, 0, [])), (10, (53, 11, 0, 0, 0, 0, 0, []))], [])
def tx_JStr_coder : Tx := ([(0, (56, 3, 0, 0, 0, 1, 0, [])), (3, (25, 6, 0, 13, 0, 0, 0, [])), (6, (4, 7, 0, 0, 0, 0, 0, [])), (7, (58, 10, 0, 0, 0, 0, 0, [])), (10, (26, 13, 0, 14, 0, 0, 0, [])), (13, (0, 14, 0, 0, 0, 1, 0, [])), (14, (53, 15, 2, 0, 0, 0, 0, []))], [])
def tx_JStr_isLatin1 : Tx := ([(0, (56, 3, 0, 0, 0, 1, 0, [])), (3, (25, 6, 0, 17, 0, 0, 0, [])), (6, (4, 7, 0, 0, 0, 0, 0, [])), (7, (58, 10, 0, 0, 0, 0, 0, [])), (10, (25, 13, 1, 17, 0, 0, 0, [])), (13, (0, 14, 0, 0, 0, 1, 0, [])), (14, (26, 17, 0, 18, 0, 0, 0, [])), (17, (0, 18, 0, 0, 0, 0, 0, [])), (18, (53, 19, 1, 0, 0, 0, 0, []))], [])
def tx_JStr_charAt : Tx := ([(0, (4, 1, 0, 0, 0, 0, 0, [])), (1, (50, 4, 244, 1, 1, 0, 0, [40])), (4, (25, 7, 0, 16, 0, 0, 0, [])), (7, (4, 8, 0, 0, 0, 0, 0, [])), (8, (57, 11, 0, 0, 0, 0, 0, [])), (11, (2, 12, 1, 0, 0, 0, 0, [])), (12, (50, 15, 249, 2, 1, 0, 0, [])), (15, (53, 16, 3, 0, 0, 0, 0, [])), (16, (4, 17, 0, 0, 0, 0, 0, [])), (17, (57, 20, 0, 0, 0, 0, 0, [])), (20, (2, 21, 1, 0, 0, 0, 0, [])), (21, (63, 24, 0, 0, 0, 0, 0, [])), (24, (53, 25, 3, 0, 0, 0, 0, []))], [])
def tx_JStr_indexOf : Tx := ([(0, (4, 1, 0, 0, 0, 0, 0, [])), (1, (2, 2, 1, 0, 0, 0, 0, [])), (2, (0, 3, 0, 0, 0, 0, 0, [])), (3, (50, 6, 247, 3, 1, 0, 0, [40])), (6, (53, 7, 0, 0, 0, 0, 0, []))], [])
def tx_JStr_indexOf3 : Tx := ([(0, (4, 1, 0, 0, 0, 0, 0, [])), (1, (50, 4, 244, 1, 1, 0, 0, [40])), (4, (25, 7, 0, 23, 0, 0, 0, [])), (7, (4, 8, 0, 0, 0, 0, 0, [])), (8, (57, 11, 0, 0, 0, 0, 0, [])), (11, (2, 12, 1, 0, 0, 0, 0, [])), (12, (2, 13, 2, 0, 0, 0, 0, [])), (13, (4, 14, 0, 0, 0, 0, 0, [])), (14, (50, 17, 242, 1, 1, 0, 0, [40])), (17, (50, 20, 251, 4, 1, 0, 0, [])), (20, (26, 23, 0, 36, 0, 0, 0, [])), (23, (4, 24, 0, 0, 0, 0, 0, [])), (24, (57, 27, 0, 0, 0, 0, 0, [])), (27, (2, 28, 1, 0, 0, 0, 0, [])), (28, (2, 29, 2, 0, 0, 0, 0, [])), (29, (4, 30, 0, 0, 0, 0, 0, [])), (30, (50, 33, 242, 1, 1, 0, 0, [40])), (33, (63, 36, 0, 0, 0, 0, 0, [])), (36, (53, 37, 0, 0, 0, 0, 0, []))], [])
def tx_JStr_checkIndex : Tx := ([(0, (2, 1, 0, 0, 0, 0, 0, [])), (1, (2, 2, 1, 0, 0, 0, 0, [])), (2, (60, 5, 0, 0, 0, 0, 0, [])), (5, (50, 8, 253, 3, 1, 0, 0, [])), (8, (61, 9, 0, 0, 0, 0, 0, [])), (9, (55, 10, 0, 0, 0, 0, 0, []))], [])
def tx_JLat_charAt : Tx := ([(0, (2, 1, 1, 0, 0, 0, 0, [])), (1, (4, 2, 0, 0, 0, 0, 0, [])), (2, (36, 3, 0, 0, 0, 0, 0, [])), (3, (50, 6, 248, 2, 0, 0, 0, [])), (6, (4, 7, 0, 0, 0, 0, 0, [])), (7, (2, 8, 1, 0, 0, 0, 0, [])), (8, (40, 9, 0, 0, 0, 0, 0, [])), (9, (0, 12, 0, 0, 0, 255, 0, [])), (12, (9, 13, 3, 0, 0, 0, 0, [])), (13, (20, 14, 0, 0, 0, 0, 0, [])), (14, (53, 15, 3, 0, 0, 0, 0, []))], [])
def tx_JLat_canEncode : Tx := ([(0, (2, 1, 0, 0, 0, 0, 0, [])), (1, (25, 4, 2, 15, 0, 0, 0, [])), (4, (2, 5, 0, 0, 0, 0, 0, [])), (5, (0, 8, 0, 0, 0, 255, 0, [])), (8, (24, 11, 4, 15, 0, 0, 0, [])), (11, (0, 12, 0, 0, 0, 1, 0, [])), (12, (26, 15, 0, 16, 0, 0, 0, [])), (15, (0, 16, 0, 0, 0, 0, 0, [])), (16, (53, 17, 1, 0, 0, 0, 0, []))], [])
def tx_JLat_indexOf : Tx := ([(0, (2, 1, 1, 0, 0, 0, 0, [])), (1, (50, 4, 250, 1, 1, 0, 0, [])), (4, (25, 7, 1, 9, 0, 0, 0, [])), (7, (0, 8, 0, 0, 0, -1, 0, [])), (8, (53, 9, 0, 0, 0, 0, 0, [])), (9, (2, 10, 2, 0, 0, 0, 0, [])), (10, (0, 11, 0, 0, 0, 0, 0, [])), (11, (50, 14, 240, 2, 1, 0, 0, [])), (14, (5, 15, 2, 0, 0, 0, 0, [])), (15, (2, 16, 3, 0, 0, 0, 0, [])), (16, (4, 17, 0, 0, 0, 0, 0, [])), (17, (36, 18, 0, 0, 0, 0, 0, [])), (18, (50, 21, 241, 2, 1, 0, 0, [])), (21, (5, 22, 3, 0, 0, 0, 0, [])), (22, (2, 23, 2, 0, 0, 0, 0, [])), (23, (2, 24, 3, 0, 0, 0, 0, [])), (24, (24, 27, 2, 29, 0, 0, 0, [])), (27, (0, 28, 0, 0, 0, -1, 0, [])), (28, (53, 29, 0, 0, 0, 0, 0, [])), (29, (4, 30, 0, 0, 0, 0, 0, [])), (30, (2, 31, 1, 0, 0, 0, 0, [])), (31, (2, 32, 2, 0, 0, 0, 0, [])), (32, (2, 33, 3, 0, 0, 0, 0, [])), (33, (50, 36, 252, 4, 1, 0, 0, [])), (36, (53, 37, 0, 0, 0, 0, 0, []))], [])
def tx_JLat_indexOfChar : Tx := ([(0, (2, 1, 1, 0, 0, 0, 0, [])), (1, (62, 2, 0, 0, 0, 0, 0, [])), (2, (5, 4, 4, 0, 0, 0, 0, [])), (4, (2, 5, 2, 0, 0, 0, 0, [])), (5, (5, 7, 5, 0, 0, 0, 0, [])), (7, (2, 9, 5, 0, 0, 0, 0, [])), (9, (2, 10, 3, 0, 0, 0, 0, [])), (10, (24, 13, 3, 31, 0, 0, 0, [])), (13, (4, 14, 0, 0, 0, 0, 0, [])), (14, (2, 16, 5, 0, 0, 0, 0, [])), (16, (40, 17, 0, 0, 0, 0, 0, [])), (17, (2, 19, 4, 0, 0, 0, 0, [])), (19, (24, 22, 1, 25, 0, 0, 0, [])), (22, (2, 24, 5, 0, 0, 0, 0, [])), (24, (53, 25, 0, 0, 0, 0, 0, [])), (25, (8, 28, 5, 0, 0, 1, 0, [])), (28, (26, 31, 0, 7, 0, 0, 0, [])), (31, (0, 32, 0, 0, 0, -1, 0, [])), (32, (53, 33, 0, 0, 0, 0, 0, []))], [(7, [1, 2])])
def tx_JPre_checkIndex : Tx := ([(0, (2, 1, 0, 0, 0, 0, 0, [])), (1, (25, 4, 2, 9, 0, 0, 0, [])), (4, (2, 5, 0, 0, 0, 0, 0, [])), (5, (2, 6, 1, 0, 0, 0, 0, [])), (6, (24, 9, 2, 16, 0, 0, 0, [])), (9, (4, 10, 2, 0, 0, 0, 0, [])), (10, (2, 11, 0, 0, 0, 0, 0, [])), (11, (2, 12, 1, 0, 0, 0, 0, [])), (12, (63, 15, 0, 0, 0, 0, 0, [])), (15, (63, 16, 0, 0, 0, 0, 0, [])), (16, (2, 17, 0, 0, 0, 0, 0, [])), (17, (53, 18, 0, 0, 0, 0, 0, []))], [])
def tx_Law_law : Tx := ([(0, (49, 3, 11, 14, 0, 0, 0, [])), (3, (22, 4, 0, 0, 0, 0, 0, [])), (4, (50, 7, 101, 1, 0, 0, 0, [])), (7, (7, 8, 1, 0, 0, 0, 0, [])), (8, (49, 11, 12, 37, 0, 0, 0, [])), (11, (22, 12, 0, 0, 0, 0, 0, [])), (12, (50, 15, 141, 1, 0, 0, 0, [])), (15, (7, 16, 2, 0, 0, 0, 0, [])), (16, (0, 17, 0, 0, 0, 1, 0, [])), (17, (47, 19, 21, 0, 0, 0, 0, [])), (19, (7, 20, 3, 0, 0, 0, 0, [])), (20, (0, 21, 0, 0, 0, 0, 0, [])), (21, (5, 23, 4, 0, 0, 0, 0, [])), (23, (2, 25, 4, 0, 0, 0, 0, [])), (25, (4, 26, 0, 0, 0, 0, 0, [])), (26, (36, 27, 0, 0, 0, 0, 0, [])), (27, (0, 29, 0, 0, 0, 7, 0, [])), (29, (9, 30, 1, 0, 0, 0, 0, [])), (30, (24, 33, 4, 1181, 0, 0, 0, [])), (33, (4, 34, 0, 0, 0, 0, 0, [])), (34, (2, 36, 4, 0, 0, 0, 0, [])), (36, (37, 37, 0, 0, 0, 0, 0, [])), (37, (0, 39, 0, 0, 0, 31, 0, [])), (39, (9, 40, 3, 0, 0, 0, 0, [])), (40, (27, 164, 0, 1175, 0, 0, 0, [164, 311, 324, 361, 386, 411, 452, 477, 490, 504, 530, 544, 613, 681, 751, 809, 834, 848, 861, 886, 923, 937, 950, 1023, 1060, 1097, 1150])), (164, (4, 165, 1, 0, 0, 0, 0, [])), (165, (4, 166, 0, 0, 0, 0, 0, [])), (166, (2, 168, 4, 0, 0, 0, 0, [])), (168, (0, 169, 0, 0, 0, 1, 0, [])), (169, (9, 170, 0, 0, 0, 0, 0, [])), (170, (37, 171, 0, 0, 0, 0, 0, [])), (171, (18, 172, 0, 0, 0, 0, 0, [])), (172, (0, 174, 0, 0, 0, 32, 0, [])), (174, (14, 175, 0, 0, 0, 0, 0, [])), (175, (4, 176, 0, 0, 0, 0, 0, [])), (176, (2, 178, 4, 0, 0, 0, 0, [])), (178, (0, 179, 0, 0, 0, 2, 0, [])), (179, (9, 180, 0, 0, 0, 0, 0, [])), (180, (37, 181, 0, 0, 0, 0, 0, [])), (181, (18, 182, 0, 0, 0, 0, 0, [])), (182, (1, 185, 19, 0, 0, 0, 4294967295, [])), (185, (13, 186, 3, 0, 0, 0, 0, [])), (186, (13, 187, 4, 0, 0, 0, 0, [])), (187, (4, 188, 0, 0, 0, 0, 0, [])), (188, (2, 190, 4, 0, 0, 0, 0, [])), (190, (0, 191, 0, 0, 0, 3, 0, [])), (191, (9, 192, 0, 0, 0, 0, 0, [])), (192, (37, 193, 0, 0, 0, 0, 0, [])), (193, (18, 194, 0, 0, 0, 0, 0, [])), (194, (0, 196, 0, 0, 0, 32, 0, [])), (196, (14, 197, 0, 0, 0, 0, 0, [])), (197, (4, 198, 0, 0, 0, 0, 0, [])), (198, (2, 200, 4, 0, 0, 0, 0, [])), (200, (0, 201, 0, 0, 0, 4, 0, [])), (201, (9, 202, 0, 0, 0, 0, 0, [])), (202, (37, 203, 0, 0, 0, 0, 0, [])), (203, (18, 204, 0, 0, 0, 0, 0, [])), (204, (1, 207, 19, 0, 0, 0, 4294967295, [])), (207, (13, 208, 3, 0, 0, 0, 0, [])), (208, (13, 209, 4, 0, 0, 0, 0, [])), (209, (4, 210, 0, 0, 0, 0, 0, [])), (210, (2, 212, 4, 0, 0, 0, 0, [])), (212, (0, 213, 0, 0, 0, 5, 0, [])), (213, (9, 214, 0, 0, 0, 0, 0, [])), (214, (37, 215, 0, 0, 0, 0, 0, [])), (215, (18, 216, 0, 0, 0, 0, 0, [])), (216, (0, 218, 0, 0, 0, 32, 0, [])), (218, (14, 219, 0, 0, 0, 0, 0, [])), (219, (4, 220, 0, 0, 0, 0, 0, [])), (220, (2, 222, 4, 0, 0, 0, 0, [])), (222, (0, 224, 0, 0, 0, 6, 0, [])), (224, (9, 225, 0, 0, 0, 0, 0, [])), (225, (37, 226, 0, 0, 0, 0, 0, [])), (226, (18, 227, 0, 0, 0, 0, 0, [])), (227, (1, 230, 19, 0, 0, 0, 4294967295, [])), (230, (13, 231, 3, 0, 0, 0, 0, [])), (231, (13, 232, 4, 0, 0, 0, 0, [])), (232, (50, 235, 102, 4, 1, 0, 0, [11])), (235, (4, 236, 2, 0, 0, 0, 0, [])), (236, (4, 237, 0, 0, 0, 0, 0, [])), (237, (2, 239, 4, 0, 0, 0, 0, [])), (239, (0, 240, 0, 0, 0, 1, 0, [])), (240, (9, 241, 0, 0, 0, 0, 0, [])), (241, (37, 242, 0, 0, 0, 0, 0, [])), (242, (18, 243, 0, 0, 0, 0, 0, [])), (243, (0, 245, 0, 0, 0, 32, 0, [])), (245, (14, 246, 0, 0, 0, 0, 0, [])), (246, (4, 247, 0, 0, 0, 0, 0, [])), (247, (2, 249, 4, 0, 0, 0, 0, [])), (249, (0, 250, 0, 0, 0, 2, 0, [])), (250, (9, 251, 0, 0, 0, 0, 0, [])), (251, (37, 252, 0, 0, 0, 0, 0, [])), (252, (18, 253, 0, 0, 0, 0, 0, [])), (253, (1, 256, 19, 0, 0, 0, 4294967295, [])), (256, (13, 257, 3, 0, 0, 0, 0, [])), (257, (13, 258, 4, 0, 0, 0, 0, [])), (258, (4, 259, 0, 0, 0, 0, 0, [])), (259, (2, 261, 4, 0, 0, 0, 0, [])), (261, (0, 262, 0, 0, 0, 3, 0, [])), (262, (9, 263, 0, 0, 0, 0, 0, [])), (263, (37, 264, 0, 0, 0, 0, 0, [])), (264, (18, 265, 0, 0, 0, 0, 0, [])), (265, (0, 267, 0, 0, 0, 32, 0, [])), (267, (14, 268, 0, 0, 0, 0, 0, [])), (268, (4, 269, 0, 0, 0, 0, 0, [])), (269, (2, 271, 4, 0, 0, 0, 0, [])), (271, (0, 272, 0, 0, 0, 4, 0, [])), (272, (9, 273, 0, 0, 0, 0, 0, [])), (273, (37, 274, 0, 0, 0, 0, 0, [])), (274, (18, 275, 0, 0, 0, 0, 0, [])), (275, (1, 278, 19, 0, 0, 0, 4294967295, [])), (278, (13, 279, 3, 0, 0, 0, 0, [])), (279, (13, 280, 4, 0, 0, 0, 0, [])), (280, (4, 281, 0, 0, 0, 0, 0, [])), (281, (2, 283, 4, 0, 0, 0, 0, [])), (283, (0, 284, 0, 0, 0, 5, 0, [])), (284, (9, 285, 0, 0, 0, 0, 0, [])), (285, (37, 286, 0, 0, 0, 0, 0, [])), (286, (18, 287, 0, 0, 0, 0, 0, [])), (287, (0, 289, 0, 0, 0, 32, 0, [])), (289, (14, 290, 0, 0, 0, 0, 0, [])), (290, (4, 291, 0, 0, 0, 0, 0, [])), (291, (2, 293, 4, 0, 0, 0, 0, [])), (293, (0, 295, 0, 0, 0, 6, 0, [])), (295, (9, 296, 0, 0, 0, 0, 0, [])), (296, (37, 297, 0, 0, 0, 0, 0, [])), (297, (18, 298, 0, 0, 0, 0, 0, [])), (298, (1, 301, 19, 0, 0, 0, 4294967295, [])), (301, (13, 302, 3, 0, 0, 0, 0, [])), (302, (13, 303, 4, 0, 0, 0, 0, [])), (303, (50, 306, 139, 4, 1, 0, 0, [12])), (306, (24, 309, 0, 1175, 0, 0, 0, [])), (309, (0, 310, 0, 0, 0, 0, 0, [])), (310, (53, 311, 1, 0, 0, 0, 0, [])), (311, (4, 312, 1, 0, 0, 0, 0, [])), (312, (50, 315, 103, 1, 1, 0, 0, [11])), (315, (4, 316, 2, 0, 0, 0, 0, [])), (316, (50, 319, 158, 1, 1, 0, 0, [12])), (319, (24, 322, 0, 1175, 0, 0, 0, [])), (322, (0, 323, 0, 0, 0, 0, 0, [])), (323, (53, 324, 1, 0, 0, 0, 0, [])), (324, (4, 325, 1, 0, 0, 0, 0, [])), (325, (4, 326, 0, 0, 0, 0, 0, [])), (326, (2, 328, 4, 0, 0, 0, 0, [])), (328, (0, 329, 0, 0, 0, 1, 0, [])), (329, (9, 330, 0, 0, 0, 0, 0, [])), (330, (37, 331, 0, 0, 0, 0, 0, [])), (331, (4, 332, 0, 0, 0, 0, 0, [])), (332, (2, 334, 4, 0, 0, 0, 0, [])), (334, (0, 335, 0, 0, 0, 2, 0, [])), (335, (9, 336, 0, 0, 0, 0, 0, [])), (336, (37, 337, 0, 0, 0, 0, 0, [])), (337, (50, 340, 104, 3, 1, 0, 0, [11])), (340, (4, 341, 2, 0, 0, 0, 0, [])), (341, (4, 342, 0, 0, 0, 0, 0, [])), (342, (2, 344, 4, 0, 0, 0, 0, [])), (344, (0, 345, 0, 0, 0, 1, 0, [])), (345, (9, 346, 0, 0, 0, 0, 0, [])), (346, (37, 347, 0, 0, 0, 0, 0, [])), (347, (4, 348, 0, 0, 0, 0, 0, [])), (348, (2, 350, 4, 0, 0, 0, 0, [])), (350, (0, 351, 0, 0, 0, 2, 0, [])), (351, (9, 352, 0, 0, 0, 0, 0, [])), (352, (37, 353, 0, 0, 0, 0, 0, [])), (353, (50, 356, 199, 3, 1, 0, 0, [12])), (356, (24, 359, 0, 1175, 0, 0, 0, [])), (359, (0, 360, 0, 0, 0, 0, 0, [])), (360, (53, 361, 1, 0, 0, 0, 0, [])), (361, (4, 362, 1, 0, 0, 0, 0, [])), (362, (4, 363, 0, 0, 0, 0, 0, [])), (363, (2, 365, 4, 0, 0, 0, 0, [])), (365, (0, 366, 0, 0, 0, 1, 0, [])), (366, (9, 367, 0, 0, 0, 0, 0, [])), (367, (37, 368, 0, 0, 0, 0, 0, [])), (368, (50, 371, 105, 2, 1, 0, 0, [11])), (371, (4, 372, 2, 0, 0, 0, 0, [])), (372, (4, 373, 0, 0, 0, 0, 0, [])), (373, (2, 375, 4, 0, 0, 0, 0, [])), (375, (0, 376, 0, 0, 0, 1, 0, [])), (376, (9, 377, 0, 0, 0, 0, 0, [])), (377, (37, 378, 0, 0, 0, 0, 0, [])), (378, (50, 381, 200, 2, 1, 0, 0, [12])), (381, (24, 384, 0, 1175, 0, 0, 0, [])), (384, (0, 385, 0, 0, 0, 0, 0, [])), (385, (53, 386, 1, 0, 0, 0, 0, [])), (386, (4, 387, 1, 0, 0, 0, 0, [])), (387, (4, 388, 0, 0, 0, 0, 0, [])), (388, (2, 390, 4, 0, 0, 0, 0, [])), (390, (0, 391, 0, 0, 0, 1, 0, [])), (391, (9, 392, 0, 0, 0, 0, 0, [])), (392, (37, 393, 0, 0, 0, 0, 0, [])), (393, (50, 396, 106, 2, 1, 0, 0, [11])), (396, (4, 397, 2, 0, 0, 0, 0, [])), (397, (4, 398, 0, 0, 0, 0, 0, [])), (398, (2, 400, 4, 0, 0, 0, 0, [])), (400, (0, 401, 0, 0, 0, 1, 0, [])), (401, (9, 402, 0, 0, 0, 0, 0, [])), (402, (37, 403, 0, 0, 0, 0, 0, [])), (403, (50, 406, 201, 2, 1, 0, 0, [12])), (406, (24, 409, 0, 1175, 0, 0, 0, [])), (409, (0, 410, 0, 0, 0, 0, 0, [])), (410, (53, 411, 1, 0, 0, 0, 0, [])), (411, (4, 412, 1, 0, 0, 0, 0, [])), (412, (4, 413, 0, 0, 0, 0, 0, [])), (413, (2, 415, 4, 0, 0, 0, 0, [])), (415, (0, 416, 0, 0, 0, 1, 0, [])), (416, (9, 417, 0, 0, 0, 0, 0, [])), (417, (37, 418, 0, 0, 0, 0, 0, [])), (418, (25, 421, 0, 425, 0, 0, 0, [])), (421, (0, 422, 0, 0, 0, 1, 0, [])), (422, (26, 425, 0, 426, 0, 0, 0, [])), (425, (0, 426, 0, 0, 0, 0, 0, [])), (426, (50, 429, 107, 2, 1, 0, 0, [11])), (429, (4, 430, 2, 0, 0, 0, 0, [])), (430, (4, 431, 0, 0, 0, 0, 0, [])), (431, (2, 433, 4, 0, 0, 0, 0, [])), (433, (0, 434, 0, 0, 0, 1, 0, [])), (434, (9, 435, 0, 0, 0, 0, 0, [])), (435, (37, 436, 0, 0, 0, 0, 0, [])), (436, (25, 439, 0, 443, 0, 0, 0, [])), (439, (0, 440, 0, 0, 0, 1, 0, [])), (440, (26, 443, 0, 444, 0, 0, 0, [])), (443, (0, 444, 0, 0, 0, 0, 0, [])), (444, (50, 447, 202, 2, 1, 0, 0, [12])), (447, (24, 450, 0, 1175, 0, 0, 0, [])), (450, (0, 451, 0, 0, 0, 0, 0, [])), (451, (53, 452, 1, 0, 0, 0, 0, [])), (452, (4, 453, 1, 0, 0, 0, 0, [])), (453, (4, 454, 0, 0, 0, 0, 0, [])), (454, (2, 456, 4, 0, 0, 0, 0, [])), (456, (0, 457, 0, 0, 0, 1, 0, [])), (457, (9, 458, 0, 0, 0, 0, 0, [])), (458, (37, 459, 0, 0, 0, 0, 0, [])), (459, (50, 462, 108, 2, 1, 0, 0, [11])), (462, (4, 463, 2, 0, 0, 0, 0, [])), (463, (4, 464, 0, 0, 0, 0, 0, [])), (464, (2, 466, 4, 0, 0, 0, 0, [])), (466, (0, 467, 0, 0, 0, 1, 0, [])), (467, (9, 468, 0, 0, 0, 0, 0, [])), (468, (37, 469, 0, 0, 0, 0, 0, [])), (469, (50, 472, 203, 2, 1, 0, 0, [12])), (472, (24, 475, 0, 1175, 0, 0, 0, [])), (475, (0, 476, 0, 0, 0, 0, 0, [])), (476, (53, 477, 1, 0, 0, 0, 0, [])), (477, (4, 478, 1, 0, 0, 0, 0, [])), (478, (50, 481, 109, 1, 1, 0, 0, [11])), (481, (4, 482, 2, 0, 0, 0, 0, [])), (482, (50, 485, 205, 1, 1, 0, 0, [12])), (485, (24, 488, 0, 1175, 0, 0, 0, [])), (488, (0, 489, 0, 0, 0, 0, 0, [])), (489, (53, 490, 1, 0, 0, 0, 0, [])), (490, (4, 491, 1, 0, 0, 0, 0, [])), (491, (50, 494, 110, 1, 2, 0, 0, [11])), (494, (4, 495, 2, 0, 0, 0, 0, [])), (495, (50, 498, 206, 1, 2, 0, 0, [12])), (498, (21, 499, 0, 0, 0, 0, 0, [])), (499, (25, 502, 0, 1175, 0, 0, 0, [])), (502, (0, 503, 0, 0, 0, 0, 0, [])), (503, (53, 504, 1, 0, 0, 0, 0, [])), (504, (4, 505, 1, 0, 0, 0, 0, [])), (505, (4, 506, 0, 0, 0, 0, 0, [])), (506, (2, 508, 4, 0, 0, 0, 0, [])), (508, (0, 509, 0, 0, 0, 1, 0, [])), (509, (9, 510, 0, 0, 0, 0, 0, [])), (510, (37, 511, 0, 0, 0, 0, 0, [])), (511, (50, 514, 111, 2, 2, 0, 0, [11])), (514, (4, 515, 2, 0, 0, 0, 0, [])), (515, (4, 516, 0, 0, 0, 0, 0, [])), (516, (2, 518, 4, 0, 0, 0, 0, [])), (518, (0, 519, 0, 0, 0, 1, 0, [])), (519, (9, 520, 0, 0, 0, 0, 0, [])), (520, (37, 521, 0, 0, 0, 0, 0, [])), (521, (50, 524, 207, 2, 2, 0, 0, [12])), (524, (21, 525, 0, 0, 0, 0, 0, [])), (525, (25, 528, 0, 1175, 0, 0, 0, [])), (528, (0, 529, 0, 0, 0, 0, 0, [])), (529, (53, 530, 1, 0, 0, 0, 0, [])), (530, (4, 531, 1, 0, 0, 0, 0, [])), (531, (50, 534, 112, 1, 2, 0, 0, [11])), (534, (4, 535, 2, 0, 0, 0, 0, [])), (535, (50, 538, 208, 1, 2, 0, 0, [12])), (538, (21, 539, 0, 0, 0, 0, 0, [])), (539, (25, 542, 0, 1175, 0, 0, 0, [])), (542, (0, 543, 0, 0, 0, 0, 0, [])), (543, (53, 544, 1, 0, 0, 0, 0, [])), (544, (4, 545, 1, 0, 0, 0, 0, [])), (545, (4, 546, 0, 0, 0, 0, 0, [])), (546, (2, 548, 4, 0, 0, 0, 0, [])), (548, (0, 549, 0, 0, 0, 1, 0, [])), (549, (9, 550, 0, 0, 0, 0, 0, [])), (550, (37, 551, 0, 0, 0, 0, 0, [])), (551, (18, 552, 0, 0, 0, 0, 0, [])), (552, (0, 554, 0, 0, 0, 32, 0, [])), (554, (14, 555, 0, 0, 0, 0, 0, [])), (555, (4, 556, 0, 0, 0, 0, 0, [])), (556, (2, 558, 4, 0, 0, 0, 0, [])), (558, (0, 559, 0, 0, 0, 2, 0, [])), (559, (9, 560, 0, 0, 0, 0, 0, [])), (560, (37, 561, 0, 0, 0, 0, 0, [])), (561, (18, 562, 0, 0, 0, 0, 0, [])), (562, (1, 565, 19, 0, 0, 0, 4294967295, [])), (565, (13, 566, 3, 0, 0, 0, 0, [])), (566, (13, 567, 4, 0, 0, 0, 0, [])), (567, (4, 568, 0, 0, 0, 0, 0, [])), (568, (2, 570, 4, 0, 0, 0, 0, [])), (570, (0, 571, 0, 0, 0, 3, 0, [])), (571, (9, 572, 0, 0, 0, 0, 0, [])), (572, (37, 573, 0, 0, 0, 0, 0, [])), (573, (50, 576, 113, 3, 1, 0, 0, [11])), (576, (4, 577, 2, 0, 0, 0, 0, [])), (577, (4, 578, 0, 0, 0, 0, 0, [])), (578, (2, 580, 4, 0, 0, 0, 0, [])), (580, (0, 581, 0, 0, 0, 1, 0, [])), (581, (9, 582, 0, 0, 0, 0, 0, [])), (582, (37, 583, 0, 0, 0, 0, 0, [])), (583, (18, 584, 0, 0, 0, 0, 0, [])), (584, (0, 586, 0, 0, 0, 32, 0, [])), (586, (14, 587, 0, 0, 0, 0, 0, [])), (587, (4, 588, 0, 0, 0, 0, 0, [])), (588, (2, 590, 4, 0, 0, 0, 0, [])), (590, (0, 591, 0, 0, 0, 2, 0, [])), (591, (9, 592, 0, 0, 0, 0, 0, [])), (592, (37, 593, 0, 0, 0, 0, 0, [])), (593, (18, 594, 0, 0, 0, 0, 0, [])), (594, (1, 597, 19, 0, 0, 0, 4294967295, [])), (597, (13, 598, 3, 0, 0, 0, 0, [])), (598, (13, 599, 4, 0, 0, 0, 0, [])), (599, (4, 600, 0, 0, 0, 0, 0, [])), (600, (2, 602, 4, 0, 0, 0, 0, [])), (602, (0, 603, 0, 0, 0, 3, 0, [])), (603, (9, 604, 0, 0, 0, 0, 0, [])), (604, (37, 605, 0, 0, 0, 0, 0, [])), (605, (50, 608, 210, 3, 1, 0, 0, [12])), (608, (24, 611, 0, 1175, 0, 0, 0, [])), (611, (0, 612, 0, 0, 0, 0, 0, [])), (612, (53, 613, 1, 0, 0, 0, 0, [])), (613, (4, 614, 1, 0, 0, 0, 0, [])), (614, (4, 615, 0, 0, 0, 0, 0, [])), (615, (2, 617, 4, 0, 0, 0, 0, [])), (617, (0, 618, 0, 0, 0, 1, 0, [])), (618, (9, 619, 0, 0, 0, 0, 0, [])), (619, (37, 620, 0, 0, 0, 0, 0, [])), (620, (4, 621, 0, 0, 0, 0, 0, [])), (621, (2, 623, 4, 0, 0, 0, 0, [])), (623, (0, 624, 0, 0, 0, 2, 0, [])), (624, (9, 625, 0, 0, 0, 0, 0, [])), (625, (37, 626, 0, 0, 0, 0, 0, [])), (626, (4, 627, 3, 0, 0, 0, 0, [])), (627, (50, 630, 255, 4, 1, 0, 0, [])), (630, (5, 632, 5, 0, 0, 0, 0, [])), (632, (4, 633, 2, 0, 0, 0, 0, [])), (633, (4, 634, 0, 0, 0, 0, 0, [])), (634, (2, 636, 4, 0, 0, 0, 0, [])), (636, (0, 637, 0, 0, 0, 1, 0, [])), (637, (9, 638, 0, 0, 0, 0, 0, [])), (638, (37, 639, 0, 0, 0, 0, 0, [])), (639, (4, 640, 0, 0, 0, 0, 0, [])), (640, (2, 642, 4, 0, 0, 0, 0, [])), (642, (0, 643, 0, 0, 0, 2, 0, [])), (643, (9, 644, 0, 0, 0, 0, 0, [])), (644, (37, 645, 0, 0, 0, 0, 0, [])), (645, (50, 648, 212, 3, 1, 0, 0, [12])), (648, (5, 650, 6, 0, 0, 0, 0, [])), (650, (4, 651, 2, 0, 0, 0, 0, [])), (651, (50, 654, 138, 1, 1, 0, 0, [12])), (654, (2, 656, 5, 0, 0, 0, 0, [])), (656, (24, 659, 0, 661, 0, 0, 0, [])), (659, (0, 660, 0, 0, 0, 0, 0, [])), (660, (53, 661, 1, 0, 0, 0, 0, [])), (661, (2, 663, 5, 0, 0, 0, 0, [])), (663, (25, 666, 1, 678, 0, 0, 0, [])), (666, (4, 667, 3, 0, 0, 0, 0, [])), (667, (0, 668, 0, 0, 0, 0, 0, [])), (668, (38, 669, 0, 0, 0, 0, 0, [])), (669, (2, 671, 6, 0, 0, 0, 0, [])), (671, (18, 672, 0, 0, 0, 0, 0, [])), (672, (21, 673, 0, 0, 0, 0, 0, [])), (673, (25, 676, 0, 678, 0, 0, 0, [])), (676, (0, 677, 0, 0, 0, 0, 0, [])), (677, (53, 678, 1, 0, 0, 0, 0, [])), (678, (26, 681, 0, 1175, 0, 0, 0, [])), (681, (4, 682, 1, 0, 0, 0, 0, [])), (682, (4, 683, 0, 0, 0, 0, 0, [])), (683, (2, 685, 4, 0, 0, 0, 0, [])), (685, (0, 686, 0, 0, 0, 1, 0, [])), (686, (9, 687, 0, 0, 0, 0, 0, [])), (687, (37, 688, 0, 0, 0, 0, 0, [])), (688, (18, 689, 0, 0, 0, 0, 0, [])), (689, (0, 691, 0, 0, 0, 32, 0, [])), (691, (14, 692, 0, 0, 0, 0, 0, [])), (692, (4, 693, 0, 0, 0, 0, 0, [])), (693, (2, 695, 4, 0, 0, 0, 0, [])), (695, (0, 696, 0, 0, 0, 2, 0, [])), (696, (9, 697, 0, 0, 0, 0, 0, [])), (697, (37, 698, 0, 0, 0, 0, 0, [])), (698, (18, 699, 0, 0, 0, 0, 0, [])), (699, (1, 702, 19, 0, 0, 0, 4294967295, [])), (702, (13, 703, 3, 0, 0, 0, 0, [])), (703, (13, 704, 4, 0, 0, 0, 0, [])), (704, (4, 705, 0, 0, 0, 0, 0, [])), (705, (2, 707, 4, 0, 0, 0, 0, [])), (707, (0, 708, 0, 0, 0, 3, 0, [])), (708, (9, 709, 0, 0, 0, 0, 0, [])), (709, (37, 710, 0, 0, 0, 0, 0, [])), (710, (50, 713, 115, 3, 2, 0, 0, [11])), (713, (4, 714, 2, 0, 0, 0, 0, [])), (714, (4, 715, 0, 0, 0, 0, 0, [])), (715, (2, 717, 4, 0, 0, 0, 0, [])), (717, (0, 718, 0, 0, 0, 1, 0, [])), (718, (9, 719, 0, 0, 0, 0, 0, [])), (719, (37, 720, 0, 0, 0, 0, 0, [])), (720, (18, 721, 0, 0, 0, 0, 0, [])), (721, (0, 723, 0, 0, 0, 32, 0, [])), (723, (14, 724, 0, 0, 0, 0, 0, [])), (724, (4, 725, 0, 0, 0, 0, 0, [])), (725, (2, 727, 4, 0, 0, 0, 0, [])), (727, (0, 728, 0, 0, 0, 2, 0, [])), (728, (9, 729, 0, 0, 0, 0, 0, [])), (729, (37, 730, 0, 0, 0, 0, 0, [])), (730, (18, 731, 0, 0, 0, 0, 0, [])), (731, (1, 734, 19, 0, 0, 0, 4294967295, [])), (734, (13, 735, 3, 0, 0, 0, 0, [])), (735, (13, 736, 4, 0, 0, 0, 0, [])), (736, (4, 737, 0, 0, 0, 0, 0, [])), (737, (2, 739, 4, 0, 0, 0, 0, [])), (739, (0, 740, 0, 0, 0, 3, 0, [])), (740, (9, 741, 0, 0, 0, 0, 0, [])), (741, (37, 742, 0, 0, 0, 0, 0, [])), (742, (50, 745, 219, 3, 2, 0, 0, [12])), (745, (21, 746, 0, 0, 0, 0, 0, [])), (746, (25, 749, 0, 1175, 0, 0, 0, [])), (749, (0, 750, 0, 0, 0, 0, 0, [])), (750, (53, 751, 1, 0, 0, 0, 0, [])), (751, (4, 752, 1, 0, 0, 0, 0, [])), (752, (4, 753, 0, 0, 0, 0, 0, [])), (753, (2, 755, 4, 0, 0, 0, 0, [])), (755, (0, 756, 0, 0, 0, 1, 0, [])), (756, (9, 757, 0, 0, 0, 0, 0, [])), (757, (37, 758, 0, 0, 0, 0, 0, [])), (758, (18, 759, 0, 0, 0, 0, 0, [])), (759, (0, 761, 0, 0, 0, 32, 0, [])), (761, (14, 762, 0, 0, 0, 0, 0, [])), (762, (4, 763, 0, 0, 0, 0, 0, [])), (763, (2, 765, 4, 0, 0, 0, 0, [])), (765, (0, 766, 0, 0, 0, 2, 0, [])), (766, (9, 767, 0, 0, 0, 0, 0, [])), (767, (37, 768, 0, 0, 0, 0, 0, [])), (768, (18, 769, 0, 0, 0, 0, 0, [])), (769, (1, 772, 19, 0, 0, 0, 4294967295, [])), (772, (13, 773, 3, 0, 0, 0, 0, [])), (773, (13, 774, 4, 0, 0, 0, 0, [])), (774, (50, 777, 116, 2, 2, 0, 0, [11])), (777, (4, 778, 2, 0, 0, 0, 0, [])), (778, (4, 779, 0, 0, 0, 0, 0, [])), (779, (2, 781, 4, 0, 0, 0, 0, [])), (781, (0, 782, 0, 0, 0, 1, 0, [])), (782, (9, 783, 0, 0, 0, 0, 0, [])), (783, (37, 784, 0, 0, 0, 0, 0, [])), (784, (18, 785, 0, 0, 0, 0, 0, [])), (785, (0, 787, 0, 0, 0, 32, 0, [])), (787, (14, 788, 0, 0, 0, 0, 0, [])), (788, (4, 789, 0, 0, 0, 0, 0, [])), (789, (2, 791, 4, 0, 0, 0, 0, [])), (791, (0, 792, 0, 0, 0, 2, 0, [])), (792, (9, 793, 0, 0, 0, 0, 0, [])), (793, (37, 794, 0, 0, 0, 0, 0, [])), (794, (18, 795, 0, 0, 0, 0, 0, [])), (795, (1, 798, 19, 0, 0, 0, 4294967295, [])), (798, (13, 799, 3, 0, 0, 0, 0, [])), (799, (13, 800, 4, 0, 0, 0, 0, [])), (800, (50, 803, 220, 2, 2, 0, 0, [12])), (803, (21, 804, 0, 0, 0, 0, 0, [])), (804, (25, 807, 0, 1175, 0, 0, 0, [])), (807, (0, 808, 0, 0, 0, 0, 0, [])), (808, (53, 809, 1, 0, 0, 0, 0, [])), (809, (4, 810, 1, 0, 0, 0, 0, [])), (810, (4, 811, 0, 0, 0, 0, 0, [])), (811, (2, 813, 4, 0, 0, 0, 0, [])), (813, (0, 814, 0, 0, 0, 1, 0, [])), (814, (9, 815, 0, 0, 0, 0, 0, [])), (815, (37, 816, 0, 0, 0, 0, 0, [])), (816, (50, 819, 117, 2, 1, 0, 0, [11])), (819, (4, 820, 2, 0, 0, 0, 0, [])), (820, (4, 821, 0, 0, 0, 0, 0, [])), (821, (2, 823, 4, 0, 0, 0, 0, [])), (823, (0, 824, 0, 0, 0, 1, 0, [])), (824, (9, 825, 0, 0, 0, 0, 0, [])), (825, (37, 826, 0, 0, 0, 0, 0, [])), (826, (50, 829, 221, 2, 1, 0, 0, [12])), (829, (24, 832, 0, 1175, 0, 0, 0, [])), (832, (0, 833, 0, 0, 0, 0, 0, [])), (833, (53, 834, 1, 0, 0, 0, 0, [])), (834, (4, 835, 1, 0, 0, 0, 0, [])), (835, (50, 838, 118, 1, 2, 0, 0, [11])), (838, (4, 839, 2, 0, 0, 0, 0, [])), (839, (50, 842, 223, 1, 2, 0, 0, [12])), (842, (21, 843, 0, 0, 0, 0, 0, [])), (843, (25, 846, 0, 1175, 0, 0, 0, [])), (846, (0, 847, 0, 0, 0, 0, 0, [])), (847, (53, 848, 1, 0, 0, 0, 0, [])), (848, (4, 849, 1, 0, 0, 0, 0, [])), (849, (50, 852, 119, 1, 1, 0, 0, [11])), (852, (4, 853, 2, 0, 0, 0, 0, [])), (853, (50, 856, 224, 1, 1, 0, 0, [12])), (856, (24, 859, 0, 1175, 0, 0, 0, [])), (859, (0, 860, 0, 0, 0, 0, 0, [])), (860, (53, 861, 1, 0, 0, 0, 0, [])), (861, (4, 862, 1, 0, 0, 0, 0, [])), (862, (4, 863, 0, 0, 0, 0, 0, [])), (863, (2, 865, 4, 0, 0, 0, 0, [])), (865, (0, 866, 0, 0, 0, 1, 0, [])), (866, (9, 867, 0, 0, 0, 0, 0, [])), (867, (37, 868, 0, 0, 0, 0, 0, [])), (868, (50, 871, 120, 2, 1, 0, 0, [11])), (871, (4, 872, 2, 0, 0, 0, 0, [])), (872, (4, 873, 0, 0, 0, 0, 0, [])), (873, (2, 875, 4, 0, 0, 0, 0, [])), (875, (0, 876, 0, 0, 0, 1, 0, [])), (876, (9, 877, 0, 0, 0, 0, 0, [])), (877, (37, 878, 0, 0, 0, 0, 0, [])), (878, (50, 881, 226, 2, 1, 0, 0, [12])), (881, (24, 884, 0, 1175, 0, 0, 0, [])), (884, (0, 885, 0, 0, 0, 0, 0, [])), (885, (53, 886, 1, 0, 0, 0, 0, [])), (886, (4, 887, 1, 0, 0, 0, 0, [])), (887, (4, 888, 0, 0, 0, 0, 0, [])), (888, (2, 890, 4, 0, 0, 0, 0, [])), (890, (0, 891, 0, 0, 0, 1, 0, [])), (891, (9, 892, 0, 0, 0, 0, 0, [])), (892, (37, 893, 0, 0, 0, 0, 0, [])), (893, (4, 894, 0, 0, 0, 0, 0, [])), (894, (2, 896, 4, 0, 0, 0, 0, [])), (896, (0, 897, 0, 0, 0, 2, 0, [])), (897, (9, 898, 0, 0, 0, 0, 0, [])), (898, (37, 899, 0, 0, 0, 0, 0, [])), (899, (50, 902, 121, 3, 1, 0, 0, [11])), (902, (4, 903, 2, 0, 0, 0, 0, [])), (903, (4, 904, 0, 0, 0, 0, 0, [])), (904, (2, 906, 4, 0, 0, 0, 0, [])), (906, (0, 907, 0, 0, 0, 1, 0, [])), (907, (9, 908, 0, 0, 0, 0, 0, [])), (908, (37, 909, 0, 0, 0, 0, 0, [])), (909, (4, 910, 0, 0, 0, 0, 0, [])), (910, (2, 912, 4, 0, 0, 0, 0, [])), (912, (0, 913, 0, 0, 0, 2, 0, [])), (913, (9, 914, 0, 0, 0, 0, 0, [])), (914, (37, 915, 0, 0, 0, 0, 0, [])), (915, (50, 918, 227, 3, 1, 0, 0, [12])), (918, (24, 921, 0, 1175, 0, 0, 0, [])), (921, (0, 922, 0, 0, 0, 0, 0, [])), (922, (53, 923, 1, 0, 0, 0, 0, [])), (923, (4, 924, 1, 0, 0, 0, 0, [])), (924, (50, 927, 122, 1, 2, 0, 0, [11])), (927, (4, 928, 2, 0, 0, 0, 0, [])), (928, (50, 931, 228, 1, 2, 0, 0, [12])), (931, (21, 932, 0, 0, 0, 0, 0, [])), (932, (25, 935, 0, 1175, 0, 0, 0, [])), (935, (0, 936, 0, 0, 0, 0, 0, [])), (936, (53, 937, 1, 0, 0, 0, 0, [])), (937, (4, 938, 1, 0, 0, 0, 0, [])), (938, (50, 941, 123, 1, 1, 0, 0, [11])), (941, (4, 942, 2, 0, 0, 0, 0, [])), (942, (50, 945, 233, 1, 1, 0, 0, [12])), (945, (24, 948, 0, 1175, 0, 0, 0, [])), (948, (0, 949, 0, 0, 0, 0, 0, [])), (949, (53, 950, 1, 0, 0, 0, 0, [])), (950, (4, 951, 1, 0, 0, 0, 0, [])), (951, (4, 952, 0, 0, 0, 0, 0, [])), (952, (2, 954, 4, 0, 0, 0, 0, [])), (954, (0, 955, 0, 0, 0, 1, 0, [])), (955, (9, 956, 0, 0, 0, 0, 0, [])), (956, (37, 957, 0, 0, 0, 0, 0, [])), (957, (4, 958, 0, 0, 0, 0, 0, [])), (958, (2, 960, 4, 0, 0, 0, 0, [])), (960, (0, 961, 0, 0, 0, 2, 0, [])), (961, (9, 962, 0, 0, 0, 0, 0, [])), (962, (37, 963, 0, 0, 0, 0, 0, [])), (963, (4, 964, 0, 0, 0, 0, 0, [])), (964, (2, 966, 4, 0, 0, 0, 0, [])), (966, (0, 967, 0, 0, 0, 3, 0, [])), (967, (9, 968, 0, 0, 0, 0, 0, [])), (968, (37, 969, 0, 0, 0, 0, 0, [])), (969, (4, 970, 0, 0, 0, 0, 0, [])), (970, (2, 972, 4, 0, 0, 0, 0, [])), (972, (0, 973, 0, 0, 0, 4, 0, [])), (973, (9, 974, 0, 0, 0, 0, 0, [])), (974, (37, 975, 0, 0, 0, 0, 0, [])), (975, (4, 976, 0, 0, 0, 0, 0, [])), (976, (2, 978, 4, 0, 0, 0, 0, [])), (978, (0, 979, 0, 0, 0, 5, 0, [])), (979, (9, 980, 0, 0, 0, 0, 0, [])), (980, (37, 981, 0, 0, 0, 0, 0, [])), (981, (50, 984, 124, 6, 1, 0, 0, [11])), (984, (4, 985, 2, 0, 0, 0, 0, [])), (985, (4, 986, 0, 0, 0, 0, 0, [])), (986, (2, 988, 4, 0, 0, 0, 0, [])), (988, (0, 989, 0, 0, 0, 1, 0, [])), (989, (9, 990, 0, 0, 0, 0, 0, [])), (990, (37, 991, 0, 0, 0, 0, 0, [])), (991, (4, 992, 0, 0, 0, 0, 0, [])), (992, (2, 994, 4, 0, 0, 0, 0, [])), (994, (0, 995, 0, 0, 0, 2, 0, [])), (995, (9, 996, 0, 0, 0, 0, 0, [])), (996, (37, 997, 0, 0, 0, 0, 0, [])), (997, (4, 998, 0, 0, 0, 0, 0, [])), (998, (2, 1000, 4, 0, 0, 0, 0, [])), (1000, (0, 1001, 0, 0, 0, 3, 0, [])), (1001, (9, 1002, 0, 0, 0, 0, 0, [])), (1002, (37, 1003, 0, 0, 0, 0, 0, [])), (1003, (4, 1004, 0, 0, 0, 0, 0, [])), (1004, (2, 1006, 4, 0, 0, 0, 0, [])), (1006, (0, 1007, 0, 0, 0, 4, 0, [])), (1007, (9, 1008, 0, 0, 0, 0, 0, [])), (1008, (37, 1009, 0, 0, 0, 0, 0, [])), (1009, (4, 1010, 0, 0, 0, 0, 0, [])), (1010, (2, 1012, 4, 0, 0, 0, 0, [])), (1012, (0, 1013, 0, 0, 0, 5, 0, [])), (1013, (9, 1014, 0, 0, 0, 0, 0, [])), (1014, (37, 1015, 0, 0, 0, 0, 0, [])), (1015, (50, 1018, 234, 6, 1, 0, 0, [12])), (1018, (24, 1021, 0, 1175, 0, 0, 0, [])), (1021, (0, 1022, 0, 0, 0, 0, 0, [])), (1022, (53, 1023, 1, 0, 0, 0, 0, [])), (1023, (4, 1024, 1, 0, 0, 0, 0, [])), (1024, (4, 1025, 0, 0, 0, 0, 0, [])), (1025, (2, 1027, 4, 0, 0, 0, 0, [])), (1027, (0, 1028, 0, 0, 0, 1, 0, [])), (1028, (9, 1029, 0, 0, 0, 0, 0, [])), (1029, (37, 1030, 0, 0, 0, 0, 0, [])), (1030, (4, 1031, 0, 0, 0, 0, 0, [])), (1031, (2, 1033, 4, 0, 0, 0, 0, [])), (1033, (0, 1034, 0, 0, 0, 2, 0, [])), (1034, (9, 1035, 0, 0, 0, 0, 0, [])), (1035, (37, 1036, 0, 0, 0, 0, 0, [])), (1036, (50, 1039, 125, 3, 1, 0, 0, [11])), (1039, (4, 1040, 2, 0, 0, 0, 0, [])), (1040, (4, 1041, 0, 0, 0, 0, 0, [])), (1041, (2, 1043, 4, 0, 0, 0, 0, [])), (1043, (0, 1044, 0, 0, 0, 1, 0, [])), (1044, (9, 1045, 0, 0, 0, 0, 0, [])), (1045, (37, 1046, 0, 0, 0, 0, 0, [])), (1046, (4, 1047, 0, 0, 0, 0, 0, [])), (1047, (2, 1049, 4, 0, 0, 0, 0, [])), (1049, (0, 1050, 0, 0, 0, 2, 0, [])), (1050, (9, 1051, 0, 0, 0, 0, 0, [])), (1051, (37, 1052, 0, 0, 0, 0, 0, [])), (1052, (50, 1055, 236, 3, 1, 0, 0, [12])), (1055, (24, 1058, 0, 1175, 0, 0, 0, [])), (1058, (0, 1059, 0, 0, 0, 0, 0, [])), (1059, (53, 1060, 1, 0, 0, 0, 0, [])), (1060, (4, 1061, 1, 0, 0, 0, 0, [])), (1061, (4, 1062, 0, 0, 0, 0, 0, [])), (1062, (2, 1064, 4, 0, 0, 0, 0, [])), (1064, (0, 1065, 0, 0, 0, 1, 0, [])), (1065, (9, 1066, 0, 0, 0, 0, 0, [])), (1066, (37, 1067, 0, 0, 0, 0, 0, [])), (1067, (4, 1068, 0, 0, 0, 0, 0, [])), (1068, (2, 1070, 4, 0, 0, 0, 0, [])), (1070, (0, 1071, 0, 0, 0, 2, 0, [])), (1071, (9, 1072, 0, 0, 0, 0, 0, [])), (1072, (37, 1073, 0, 0, 0, 0, 0, [])), (1073, (50, 1076, 126, 3, 1, 0, 0, [11])), (1076, (4, 1077, 2, 0, 0, 0, 0, [])), (1077, (4, 1078, 0, 0, 0, 0, 0, [])), (1078, (2, 1080, 4, 0, 0, 0, 0, [])), (1080, (0, 1081, 0, 0, 0, 1, 0, [])), (1081, (9, 1082, 0, 0, 0, 0, 0, [])), (1082, (37, 1083, 0, 0, 0, 0, 0, [])), (1083, (4, 1084, 0, 0, 0, 0, 0, [])), (1084, (2, 1086, 4, 0, 0, 0, 0, [])), (1086, (0, 1087, 0, 0, 0, 2, 0, [])), (1087, (9, 1088, 0, 0, 0, 0, 0, [])), (1088, (37, 1089, 0, 0, 0, 0, 0, [])), (1089, (50, 1092, 237, 3, 1, 0, 0, [12])), (1092, (24, 1095, 0, 1175, 0, 0, 0, [])), (1095, (0, 1096, 0, 0, 0, 0, 0, [])), (1096, (53, 1097, 1, 0, 0, 0, 0, [])), (1097, (4, 1098, 1, 0, 0, 0, 0, [])), (1098, (4, 1099, 0, 0, 0, 0, 0, [])), (1099, (2, 1101, 4, 0, 0, 0, 0, [])), (1101, (0, 1102, 0, 0, 0, 1, 0, [])), (1102, (9, 1103, 0, 0, 0, 0, 0, [])), (1103, (37, 1104, 0, 0, 0, 0, 0, [])), (1104, (4, 1105, 0, 0, 0, 0, 0, [])), (1105, (2, 1107, 4, 0, 0, 0, 0, [])), (1107, (0, 1108, 0, 0, 0, 2, 0, [])), (1108, (9, 1109, 0, 0, 0, 0, 0, [])), (1109, (37, 1110, 0, 0, 0, 0, 0, [])), (1110, (25, 1113, 0, 1117, 0, 0, 0, [])), (1113, (0, 1114, 0, 0, 0, 1, 0, [])), (1114, (26, 1117, 0, 1118, 0, 0, 0, [])), (1117, (0, 1118, 0, 0, 0, 0, 0, [])), (1118, (50, 1121, 127, 3, 1, 0, 0, [11])), (1121, (4, 1122, 2, 0, 0, 0, 0, [])), (1122, (4, 1123, 0, 0, 0, 0, 0, [])), (1123, (2, 1125, 4, 0, 0, 0, 0, [])), (1125, (0, 1126, 0, 0, 0, 1, 0, [])), (1126, (9, 1127, 0, 0, 0, 0, 0, [])), (1127, (37, 1128, 0, 0, 0, 0, 0, [])), (1128, (4, 1129, 0, 0, 0, 0, 0, [])), (1129, (2, 1131, 4, 0, 0, 0, 0, [])), (1131, (0, 1132, 0, 0, 0, 2, 0, [])), (1132, (9, 1133, 0, 0, 0, 0, 0, [])), (1133, (37, 1134, 0, 0, 0, 0, 0, [])), (1134, (25, 1137, 0, 1141, 0, 0, 0, [])), (1137, (0, 1138, 0, 0, 0, 1, 0, [])), (1138, (26, 1141, 0, 1142, 0, 0, 0, [])), (1141, (0, 1142, 0, 0, 0, 0, 0, [])), (1142, (50, 1145, 238, 3, 1, 0, 0, [12])), (1145, (24, 1148, 0, 1175, 0, 0, 0, [])), (1148, (0, 1149, 0, 0, 0, 0, 0, [])), (1149, (53, 1150, 1, 0, 0, 0, 0, [])), (1150, (4, 1151, 1, 0, 0, 0, 0, [])), (1151, (4, 1152, 0, 0, 0, 0, 0, [])), (1152, (2, 1154, 4, 0, 0, 0, 0, [])), (1154, (0, 1155, 0, 0, 0, 1, 0, [])), (1155, (9, 1156, 0, 0, 0, 0, 0, [])), (1156, (37, 1157, 0, 0, 0, 0, 0, [])), (1157, (50, 1160, 128, 2, 1, 0, 0, [11])), (1160, (4, 1161, 2, 0, 0, 0, 0, [])), (1161, (4, 1162, 0, 0, 0, 0, 0, [])), (1162, (2, 1164, 4, 0, 0, 0, 0, [])), (1164, (0, 1165, 0, 0, 0, 1, 0, [])), (1165, (9, 1166, 0, 0, 0, 0, 0, [])), (1166, (37, 1167, 0, 0, 0, 0, 0, [])), (1167, (50, 1170, 239, 2, 1, 0, 0, [12])), (1170, (24, 1173, 0, 1175, 0, 0, 0, [])), (1173, (0, 1174, 0, 0, 0, 0, 0, [])), (1174, (53, 1175, 1, 0, 0, 0, 0, [])), (1175, (8, 1178, 4, 0, 0, 7, 0, [])), (1178, (26, 1181, 0, 23, 0, 0, 0, [])), (1181, (0, 1182, 0, 0, 0, 1, 0, [])), (1182, (53, 1183, 1, 0, 0, 0, 0, []))], [(23, [5, 6]), (33, [5, 6]), (164, [5, 6]), (324, [5, 6]), (361, [5, 6]), (386, [5, 6]), (426, [5, 6]), (452, [5, 6]), (504, [5, 6]), (544, [5, 6]), (613, [5, 6]), (681, [5, 6]), (751, [5, 6]), (809, [5, 6]), (861, [5, 6]), (886, [5, 6]), (950, [5, 6]), (1023, [5, 6]), (1060, [5, 6]), (1097, [5, 6]), (1118, [5, 6]), (1150, [5, 6])])
def pgm : List (Nat × (Tx × Nat)) := [(0, (tx_Climber_new, 1)), (1, (tx_Climber_start, 1)), (2, (tx_Climber_put, 6)), (3, (tx_Climber_follow, 2)), (4, (tx_Climber_can, 4)), (5, (tx_Climber_go, 3)), (6, (tx_Climber_undo, 2)), (7, (tx_Climber_moodOf, 4)), (8, (tx_Climber_feelMoods, 4)), (9, (tx_Climber_keepPossible, 6)), (10, (tx_Mark_new, 1)), (11, (tx_Mood_new, 1)), (12, (tx_Mood_add, 2)), (13, (tx_Mood_of, 8)), (14, (tx_Mood_fact, 5)), (15, (tx_Mood_joined, 3)), (16, (tx_Pair_new, 1)), (17, (tx_Pair_pairs, 4)), (18, (tx_Pair_beat, 10)), (19, (tx_Pair_moved, 5)), (20, (tx_Rests_new, 1)), (21, (tx_Rests_rest, 7)), (22, (tx_Rests_findFirst, 6)), (23, (tx_Rests_square, 9)), (24, (tx_Stair_new, 1)), (25, (tx_Stair_clear, 2)), (26, (tx_Stair_finish, 2)), (27, (tx_Stair_addStride, 3)), (28, (tx_Stair_tells, 2)), (29, (tx_Stair_isBarred, 3)), (30, (tx_Stair_isGreat, 2)), (31, (tx_Stair_footFits, 2)), (32, (tx_Stair_longest, 1)), (33, (tx_Stair_creakKinds, 1)), (34, (tx_Stair_greatKinds, 1)), (35, (tx_Stair_findFarthest, 3)), (36, (tx_Stair_findHeaps, 2)), (37, (tx_Stair_leastHeap, 5)), (38, (tx_StairReader_new, 1)), (39, (tx_StairReader_read, 4)), (40, (tx_StairReader_readFirst, 2)), (41, (tx_StairReader_readLine, 2)), (42, (tx_StairReader_readStrides, 3)), (43, (tx_StairReader_readStep, 4)), (44, (tx_StairReader_readCreaks, 2)), (45, (tx_StairReader_readBar, 3)), (46, (tx_StairReader_readFoot, 2)), (47, (tx_StairReader_readCount, 2)), (48, (tx_StairReader_readGreat, 2)), (49, (tx_StairReader_readEither, 5)), (50, (tx_StairReader_readTest, 4)), (51, (tx_StairReader_readSum, 5)), (52, (tx_StairReader_readProduct, 4)), (53, (tx_StairReader_readPart, 6)), (54, (tx_StairReader_namedFact, 1)), (55, (tx_StairReader_isFirst, 2)), (56, (tx_StairReader_isNumber, 3)), (57, (tx_StairReader_takeNumber, 3)), (58, (tx_StairReader_takeWord, 2)), (59, (tx_StairReader_takeSign, 2)), (60, (tx_StairReader_fail, 2)), (61, (tx_Sweep_new, 1)), (62, (tx_Sweep_fewestClimbers, 5)), (63, (tx_Sweep_findReached, 6)), (64, (tx_Sweep_leads, 3)), (65, (tx_Sweep_joins, 6)), (66, (tx_Tape_new, 1)), (67, (tx_Tape_put, 6)), (68, (tx_Tape_rewind, 1)), (69, (tx_Tape_advance, 2)), (70, (tx_Tape_isWord, 3)), (71, (tx_Tape_readWord, 1)), (72, (tx_Tape_readNumber, 1)), (73, (tx_Tape_isBlank, 1)), (74, (tx_Tape_isLetter, 1)), (75, (tx_Tape_isDigit, 1)), (76, (tx_Throng_new, 1)), (77, (tx_Throng_forget, 1)), (78, (tx_Throng_goUp, 7)), (79, (tx_Throng_begin, 4)), (80, (tx_Throng_passStep, 12)), (81, (tx_Throng_placeOf, 4)), (82, (tx_Throng_part, 9)), (83, (tx_Throng_send, 11)), (84, (tx_Ways_new, 1)), (85, (tx_Ways_forget, 1)), (86, (tx_Ways_beginAll, 2)), (87, (tx_Ways_beginExactly, 3)), (88, (tx_Ways_beginGame, 2)), (89, (tx_Ways_beginDusty, 4)), (90, (tx_Ways_from, 8)), (91, (tx_Ways_behind, 7)), (92, (tx_Ways_ahead, 7)), (93, (tx_Ways_strideAt, 13)), (94, (tx_Ways_winning, 8)), (95, (tx_Ways_begin, 8)), (96, (tx_Ways_findLastKinds, 3)), (97, (tx_Ways_placeOf, 3)), (98, (tx_Ways_isEnd, 3)), (99, (tx_Ways_isOpen, 4)), (100, (tx_Ways_agreesWithDust, 4)), (101, (tx_X_new, 2)), (102, (tx_X_feed, 7)), (103, (tx_X_stair, 3)), (104, (tx_X_step, 3)), (105, (tx_X_may, 2)), (106, (tx_X_stride, 2)), (107, (tx_X_back, 2)), (108, (tx_X_taken, 2)), (109, (tx_X_lawful, 1)), (110, (tx_X_many, 1)), (111, (tx_X_manyOf, 2)), (112, (tx_X_rank, 4)), (113, (tx_X_nth, 4)), (114, (tx_X_plain, 3)), (115, (tx_X_crowd, 4)), (116, (tx_X_weary, 3)), (117, (tx_X_weight, 2)), (118, (tx_X_two, 1)), (119, (tx_X_game, 1)), (120, (tx_X_heaps, 6)), (121, (tx_X_dust, 3)), (122, (tx_X_fit, 1)), (123, (tx_X_fewest, 1)), (124, (tx_X_still, 9)), (125, (tx_X_fair, 7)), (126, (tx_X_climb, 5)), (127, (tx_X_mark, 4)), (128, (tx_X_count, 2)), (129, (tx_X_beginAnew, 3)), (130, (tx_X_manyFrom, 2)), (131, (tx_X_strideOf, 4)), (132, (tx_X_drawBelow, 2)), (133, (tx_X_strideWeighing, 4)), (134, (tx_X_isNoCrowd, 2)), (135, (tx_X_isNoStill, 1)), (136, (tx_X_isNoSeed, 1)), (137, (tx_X_commonDivisor, 6)), (138, (tx_M_thrown, 1)), (139, (tx_M_feed, 7)), (140, (tx_M_lay, 5)), (141, (tx_M_new, 1)), (142, (tx_M_isLetter, 1)), (143, (tx_M_isDigit, 1)), (144, (tx_M_rank, 1)), (145, (tx_M_isSignOf, 1)), (146, (tx_M_cutAll, 7)), (147, (tx_M_wrong, 2)), (148, (tx_M_isSign, 2)), (149, (tx_M_isWord, 2)), (150, (tx_M_takeSign, 2)), (151, (tx_M_hasSign, 3)), (152, (tx_M_hasWord, 3)), (153, (tx_M_takeWord, 2)), (154, (tx_M_within, 3)), (155, (tx_M_standsAsAlways, 3)), (156, (tx_M_takeNumber, 3)), (157, (tx_M_takeAfter, 4)), (158, (tx_M_stair, 2)), (159, (tx_M_sorts, 5)), (160, (tx_M_isOnce, 2)), (161, (tx_M_readLine, 1)), (162, (tx_M_readStep, 3)), (163, (tx_M_readBar, 4)), (164, (tx_M_isBarred, 6)), (165, (tx_M_readStrides, 1)), (166, (tx_M_readStride, 4)), (167, (tx_M_readFoot, 1)), (168, (tx_M_emit, 3)), (169, (tx_M_all, 3)), (170, (tx_M_test, 3)), (171, (tx_M_sums, 3)), (172, (tx_M_products, 2)), (173, (tx_M_takePart, 5)), (174, (tx_M_worthAt, 5)), (175, (tx_M_both, 3)), (176, (tx_M_steps, 1)), (177, (tx_M_strides, 1)), (178, (tx_M_strideOf, 2)), (179, (tx_M_kindOf, 2)), (180, (tx_M_takenMany, 1)), (181, (tx_M_indexOf, 4)), (182, (tx_M_isGreat, 2)), (183, (tx_M_findNow, 3)), (184, (tx_M_placeOf, 5)), (185, (tx_M_creakOf, 2)), (186, (tx_M_isShut, 2)), (187, (tx_M_isMust, 2)), (188, (tx_M_passesMust, 5)), (189, (tx_M_mayNext, 9)), (190, (tx_M_nextAt, 8)), (191, (tx_M_mostCreaks, 1)), (192, (tx_M_mostGreats, 1)), (193, (tx_M_isLawfulAt, 3)), (194, (tx_M_lays, 8)), (195, (tx_M_ways, 10)), (196, (tx_M_wins, 8)), (197, (tx_M_nowAt, 1)), (198, (tx_M_mayNow, 2)), (199, (tx_M_step, 3)), (200, (tx_M_may, 3)), (201, (tx_M_stride, 2)), (202, (tx_M_back, 2)), (203, (tx_M_taken, 2)), (204, (tx_M_lawfulNow, 2)), (205, (tx_M_lawful, 1)), (206, (tx_M_many, 1)), (207, (tx_M_manyOf, 2)), (208, (tx_M_rank0, 6)), (209, (tx_M_strideAt, 14)), (210, (tx_M_nth, 6)), (211, (tx_M_multiplies, 9)), (212, (tx_M_plain, 4)), (213, (tx_M_squares, 3)), (214, (tx_M_weightAt, 8)), (215, (tx_M_goesCrowd, 8)), (216, (tx_M_parts, 15)), (217, (tx_M_moves, 9)), (218, (tx_M_isCrowd, 2)), (219, (tx_M_crowd, 4)), (220, (tx_M_weary, 3)), (221, (tx_M_weight, 2)), (222, (tx_M_comes, 5)), (223, (tx_M_two, 10)), (224, (tx_M_game, 2)), (225, (tx_M_findHeaps, 5)), (226, (tx_M_heaps, 7)), (227, (tx_M_dust, 3)), (228, (tx_M_fit, 1)), (229, (tx_M_isOpen, 2)), (230, (tx_M_findLeads, 6)), (231, (tx_M_isTrodden, 2)), (232, (tx_M_finds, 3)), (233, (tx_M_fewest, 4)), (234, (tx_M_still, 11)), (235, (tx_M_draw, 2)), (236, (tx_M_fair, 7)), (237, (tx_M_climb, 11)), (238, (tx_M_mark, 6)), (239, (tx_M_count, 2)), (240, (tx_JMath_max, 2)), (241, (tx_JMath_min, 2)), (242, (tx_JStr_length, 1)), (243, (tx_JStr_coder, 1)), (244, (tx_JStr_isLatin1, 1)), (245, (tx_JStr_charAt, 2)), (246, (tx_JStr_indexOf, 2)), (247, (tx_JStr_indexOf3, 3)), (248, (tx_JStr_checkIndex, 2)), (249, (tx_JLat_charAt, 2)), (250, (tx_JLat_canEncode, 1)), (251, (tx_JLat_indexOf, 4)), (252, (tx_JLat_indexOfChar, 6)), (253, (tx_JPre_checkIndex, 3)), (254, (tx_Law_law, 7))]
/-- the law's own 'plain': it catches what StairWays.plain throws -/
noncomputable def lawp (kc : Nat → List AV → Hp → Option Rs) (args : List AV) (h : Hp) : Option Rs := match args with
  | [.inr (.inr (k, x)), .inl p0, .inl p1, .inr (.inr (k2, o))] => bif Nat.beq k 11 && Nat.beq k2 21 then
      ifp (0 ≤ p0 ∧ p0 ≤ 999999999 ∧ 1 ≤ p1 ∧ p1 ≤ 9999) (bI (kc 114 [vR 11 x, vI p0, vI p1] h) (fun r h1 => ifp (inb 0 (hN h1 o) = true) (some (some (vI 0), sL h1 o 0 r.toInt64)) none)) (alc h (fun _ => some (some (vI 1), sN h 30 0 6))) else none
  | _ => none
noncomputable def evm : Nat → Nat → List AV → Hp → Option Rs
  | 0, _, _, _ => none
  | d + 1, mi, args, h => bif Nat.beq mi 255 then lawp (evm d) args h else match lk pgm mi with
    | some (t, n) => bif Nat.ble (ael args).length n then evs (evm d) t (kil t (0, pad (ael args) (n - (ael args).length), [], h)) else none
    | none => none
end
section
set_option maxRecDepth 100000 in
theorem e_Climber_new (d : Nat) (r_0 : Nat) (h : Hp) : evm (d + 1) 0 [vR 0 r_0] h =
    ifp (inb (40 : Int32) 1000000 = true) (
    alc h fun q1 =>
    some (none, sR (sN h 20 (ix (40 : Int32)) (ix (40 : Int32))) r_0 0 q1)) none := (evs_xpd _ tx_Climber_new [] 12 _).trans rfl
set_option maxRecDepth 100000 in
theorem e_Climber_start (d : Nat) (r_0 : Nat) (h : Hp) : evm (d + 1) 1 [vR 0 r_0] h =
    bV (evm d 2 [vR 0 r_0, vI (0 : Int32), vI (0 : Int32), vI (0 : Int32), vI (0 : Int32), vI (0 : Int32)] h) fun h1 =>
    some (none, h1) := (evs_xpd _ tx_Climber_start [] 13 _).trans rfl
set_option maxRecDepth 100000 in
theorem e_Climber_put (d : Nat) (r_0 : Nat) (x_1 : Int32) (x_2 : Int32) (x_3 : Int32) (x_4 : Int32) (x_5 : Int32) (h : Hp) : evm (d + 1) 2 [vR 0 r_0, vI x_1, vI x_2, vI x_3, vI x_4, vI x_5] h =
    some (none, sI (sI (sI (sI (sI h r_0 1 x_1) r_0 2 x_2) r_0 3 x_3) r_0 4 x_4) r_0 5 x_5) := (evs_xpd _ tx_Climber_put [] 21 _).trans rfl
set_option maxRecDepth 100000 in
theorem e_Climber_follow (d : Nat) (r_0 : Nat) (r_1 : Nat) (h : Hp) : evm (d + 1) 3 [vR 0 r_0, vR 0 r_1] h =
    bV (evm d 2 [vR 0 r_0, vI (hI h r_1 1), vI (hI h r_1 2), vI (hI h r_1 3), vI (hI h r_1 4), vI (hI h r_1 5)] h) fun h1 =>
    bR (hR h1 r_1 0) fun r2 =>
    bR (hR h1 r_0 0) fun r3 =>
    bR (hR h1 r_0 0) fun r4 =>
    ifp (0 ≤ (nI (hN h1 r4)).toInt ∧ 0 ≤ (0 : Int32).toInt ∧ 0 ≤ (0 : Int32).toInt ∧ ix (0 : Int32) + ix (nI (hN h1 r4)) ≤ hN h1 r2 ∧ ix (0 : Int32) + ix (nI (hN h1 r4)) ≤ hN h1 r3) (
    some (none, sCp h1 r2 (ix (0 : Int32)) r3 (ix (0 : Int32)) (ix (nI (hN h1 r4))))) none := (evs_xpd _ tx_Climber_follow [] 28 _).trans rfl
noncomputable def L_Climber_can_37 (d : Nat) (r_0 : Nat) (r_1 : Nat) (x_2 : Int32) (h : Hp) : Option Rs := evs (evm d) tx_Climber_can (37, [some (vR 0 r_0), some (vR 5 r_1), some (vI x_2), none], [], h)
noncomputable def L_Climber_can_120 (d : Nat) (r_0 : Nat) (r_1 : Nat) (x_2 : Int32) (h : Hp) : Option Rs := evs (evm d) tx_Climber_can (120, [some (vR 0 r_0), some (vR 5 r_1), some (vI x_2), none], [], h)
set_option maxRecDepth 100000 in
theorem e_Climber_can_37 (d : Nat) (r_0 : Nat) (r_1 : Nat) (x_2 : Int32) (h : Hp) : L_Climber_can_37 d r_0 r_1 x_2 h =
    bR (hR h r_1 5) fun r1 =>
    ifp (inb (hI h r_0 1) (hN h r1) = true) (
    ifp ((hI h r1 (ix (hI h r_0 1))) < ((hI h r_0 1) + x_2))
      (some (some (vI (0 : Int32)), h))
      (ifp ((40 : Int32) < ((hI h r_0 1) + x_2))
        (some (some (vI (0 : Int32)), h))
        (bR (hR h r_1 2) fun r2 =>
        ifp (inb ((hI h r_0 1) + x_2) (hN h r2) = true) (
        ifp ((hI h r2 (ix ((hI h r_0 1) + x_2))) = (1 : Int32))
          (some (some (vI (0 : Int32)), h))
          (bI (evm d 29 [vR 5 r_1, vI (hI h r_0 3), vI x_2] h) fun x4 h3 =>
          ifp (x4 = 0)
            (bR (hR h3 r_1 2) fun r5 =>
            ifp (inb ((hI h r_0 1) + x_2) (hN h3 r5) = true) (
            ifp ((hI h3 r5 (ix ((hI h r_0 1) + x_2))) = (2 : Int32))
              (ifp ((hI h3 r_1 10) = (-1 : Int32))
                (L_Climber_can_120 d r_0 r_1 x_2 h3)
                (ifp ((hI h3 r_0 4) < (hI h3 r_1 10))
                  (L_Climber_can_120 d r_0 r_1 x_2 h3)
                  (some (some (vI (0 : Int32)), h3))))
              (L_Climber_can_120 d r_0 r_1 x_2 h3)) none)
            (some (some (vI (0 : Int32)), h3)))) none))) none := (evs_xpd _ tx_Climber_can [37, 120] 84 _).trans rfl
set_option maxRecDepth 100000 in
theorem e_Climber_can_120 (d : Nat) (r_0 : Nat) (r_1 : Nat) (x_2 : Int32) (h : Hp) : L_Climber_can_120 d r_0 r_1 x_2 h =
    bI (evm d 30 [vR 5 r_1, vI x_2] h) fun x2 h1 =>
    ifp (x2 = 0)
      (some (some (vI (1 : Int32)), h1))
      (ifp ((hI h1 r_0 5) < (hI h1 r_1 16))
        (some (some (vI (1 : Int32)), h1))
        (some (some (vI (0 : Int32)), h1))) := (evs_xpd _ tx_Climber_can [37, 120] 84 _).trans rfl
set_option maxRecDepth 100000 in
theorem e_Climber_can (d : Nat) (r_0 : Nat) (r_1 : Nat) (x_2 : Int32) (h : Hp) : evm (d + 1) 4 [vR 0 r_0, vR 5 r_1, vI x_2] h =
    bI (evm d 28 [vR 5 r_1, vI x_2] h) fun x2 h1 =>
    ifp (x2 = 0)
      (some (some (vI (0 : Int32)), h1))
      (ifp ((hI h1 r_0 1) < 0)
        (some (some (vI (0 : Int32)), h1))
        (ifp ((40 : Int32) < (hI h1 r_0 1))
          (some (some (vI (0 : Int32)), h1))
          (ifp ((hI h1 r_0 2) < (hI h1 r_1 14))
            (L_Climber_can_37 d r_0 r_1 x_2 h1)
            (some (some (vI (0 : Int32)), h1))))) := (evs_xpd _ tx_Climber_can [37, 120] 84 _).trans rfl
noncomputable def L_Climber_go_12 (d : Nat) (r_0 : Nat) (r_1 : Nat) (x_2 : Int32) (h : Hp) : Option Rs := evs (evm d) tx_Climber_go (12, [some (vR 0 r_0), some (vR 5 r_1), some (vI x_2)], [], h)
noncomputable def L_Climber_go_89 (d : Nat) (r_0 : Nat) (r_1 : Nat) (x_2 : Int32) (xs0 : Int32) (xs1 : Int32) (rs2 : Nat) (h : Hp) : Option Rs := evs (evm d) tx_Climber_go (89, [some (vR 0 r_0), some (vR 5 r_1), some (vI x_2)], [vI xs0, vI xs1, vR 0 rs2], h)
set_option maxRecDepth 100000 in
theorem e_Climber_go_12 (d : Nat) (r_0 : Nat) (r_1 : Nat) (x_2 : Int32) (h : Hp) : L_Climber_go_12 d r_0 r_1 x_2 h =
    ifp (x_2 < (1 : Int32))
      (some (none, h))
      (ifp ((hI h r_1 7) < ((hI h r_0 1) + x_2))
        (some (none, h))
        (bR (hR h r_0 0) fun r1 =>
        ifp (inb (hI h r_0 2) (hN h r1) = true) (
        bR (hR (sI (sI (sI (sI h r1 (ix (hI h r_0 2)) x_2) r_0 2 ((hI (sI h r1 (ix (hI h r_0 2)) x_2) r_0 2) + (1 : Int32))) r_0 1 ((hI (sI (sI h r1 (ix (hI h r_0 2)) x_2) r_0 2 ((hI (sI h r1 (ix (hI h r_0 2)) x_2) r_0 2) + (1 : Int32))) r_0 1) + x_2)) r_0 3 x_2) r_1 2) fun r2 =>
        ifp (inb (hI (sI (sI (sI (sI h r1 (ix (hI h r_0 2)) x_2) r_0 2 ((hI (sI h r1 (ix (hI h r_0 2)) x_2) r_0 2) + (1 : Int32))) r_0 1 ((hI (sI (sI h r1 (ix (hI h r_0 2)) x_2) r_0 2 ((hI (sI h r1 (ix (hI h r_0 2)) x_2) r_0 2) + (1 : Int32))) r_0 1) + x_2)) r_0 3 x_2) r_0 1) (hN (sI (sI (sI (sI h r1 (ix (hI h r_0 2)) x_2) r_0 2 ((hI (sI h r1 (ix (hI h r_0 2)) x_2) r_0 2) + (1 : Int32))) r_0 1 ((hI (sI (sI h r1 (ix (hI h r_0 2)) x_2) r_0 2 ((hI (sI h r1 (ix (hI h r_0 2)) x_2) r_0 2) + (1 : Int32))) r_0 1) + x_2)) r_0 3 x_2) r2) = true) (
        ifp ((hI (sI (sI (sI (sI h r1 (ix (hI h r_0 2)) x_2) r_0 2 ((hI (sI h r1 (ix (hI h r_0 2)) x_2) r_0 2) + (1 : Int32))) r_0 1 ((hI (sI (sI h r1 (ix (hI h r_0 2)) x_2) r_0 2 ((hI (sI h r1 (ix (hI h r_0 2)) x_2) r_0 2) + (1 : Int32))) r_0 1) + x_2)) r_0 3 x_2) r2 (ix (hI (sI (sI (sI (sI h r1 (ix (hI h r_0 2)) x_2) r_0 2 ((hI (sI h r1 (ix (hI h r_0 2)) x_2) r_0 2) + (1 : Int32))) r_0 1 ((hI (sI (sI h r1 (ix (hI h r_0 2)) x_2) r_0 2 ((hI (sI h r1 (ix (hI h r_0 2)) x_2) r_0 2) + (1 : Int32))) r_0 1) + x_2)) r_0 3 x_2) r_0 1))) = (2 : Int32))
          (L_Climber_go_89 d r_0 r_1 x_2 (1 : Int32) (hI (sI (sI (sI (sI h r1 (ix (hI h r_0 2)) x_2) r_0 2 ((hI (sI h r1 (ix (hI h r_0 2)) x_2) r_0 2) + (1 : Int32))) r_0 1 ((hI (sI (sI h r1 (ix (hI h r_0 2)) x_2) r_0 2 ((hI (sI h r1 (ix (hI h r_0 2)) x_2) r_0 2) + (1 : Int32))) r_0 1) + x_2)) r_0 3 x_2) r_0 4) r_0 (sI (sI (sI (sI h r1 (ix (hI h r_0 2)) x_2) r_0 2 ((hI (sI h r1 (ix (hI h r_0 2)) x_2) r_0 2) + (1 : Int32))) r_0 1 ((hI (sI (sI h r1 (ix (hI h r_0 2)) x_2) r_0 2 ((hI (sI h r1 (ix (hI h r_0 2)) x_2) r_0 2) + (1 : Int32))) r_0 1) + x_2)) r_0 3 x_2))
          (L_Climber_go_89 d r_0 r_1 x_2 (0 : Int32) (hI (sI (sI (sI (sI h r1 (ix (hI h r_0 2)) x_2) r_0 2 ((hI (sI h r1 (ix (hI h r_0 2)) x_2) r_0 2) + (1 : Int32))) r_0 1 ((hI (sI (sI h r1 (ix (hI h r_0 2)) x_2) r_0 2 ((hI (sI h r1 (ix (hI h r_0 2)) x_2) r_0 2) + (1 : Int32))) r_0 1) + x_2)) r_0 3 x_2) r_0 4) r_0 (sI (sI (sI (sI h r1 (ix (hI h r_0 2)) x_2) r_0 2 ((hI (sI h r1 (ix (hI h r_0 2)) x_2) r_0 2) + (1 : Int32))) r_0 1 ((hI (sI (sI h r1 (ix (hI h r_0 2)) x_2) r_0 2 ((hI (sI h r1 (ix (hI h r_0 2)) x_2) r_0 2) + (1 : Int32))) r_0 1) + x_2)) r_0 3 x_2))) none) none)) := (evs_xpd _ tx_Climber_go [12, 89] 71 _).trans rfl
set_option maxRecDepth 100000 in
theorem e_Climber_go_89 (d : Nat) (r_0 : Nat) (r_1 : Nat) (x_2 : Int32) (xs0 : Int32) (xs1 : Int32) (rs2 : Nat) (h : Hp) : L_Climber_go_89 d r_0 r_1 x_2 xs0 xs1 rs2 h =
    bI (evm d 30 [vR 5 r_1, vI x_2] (sI h rs2 4 (xs1 + xs0))) fun x2 h1 =>
    ifp (x2 = 0)
      (some (none, sI h1 r_0 5 ((hI (sI h rs2 4 (xs1 + xs0)) r_0 5) + (0 : Int32))))
      (some (none, sI h1 r_0 5 ((hI (sI h rs2 4 (xs1 + xs0)) r_0 5) + (1 : Int32)))) := (evs_xpd _ tx_Climber_go [12, 89] 71 _).trans rfl
set_option maxRecDepth 100000 in
theorem e_Climber_go (d : Nat) (r_0 : Nat) (r_1 : Nat) (x_2 : Int32) (h : Hp) : evm (d + 1) 5 [vR 0 r_0, vR 5 r_1, vI x_2] h =
    bR (hR h r_0 0) fun r1 =>
    ifp ((hI h r_0 2) < (nI (hN h r1)))
      (L_Climber_go_12 d r_0 r_1 x_2 h)
      (some (none, h)) := (evs_xpd _ tx_Climber_go [12, 89] 71 _).trans rfl
noncomputable def L_Climber_undo_60 (d : Nat) (r_0 : Nat) (r_1 : Nat) (xs0 : Int32) (xs1 : Int32) (rs2 : Nat) (h : Hp) : Option Rs := evs (evm d) tx_Climber_undo (60, [some (vR 0 r_0), some (vR 5 r_1)], [vI xs0, vI xs1, vR 0 rs2], h)
noncomputable def L_Climber_undo_85 (d : Nat) (r_0 : Nat) (xs0 : Int32) (xs1 : Int32) (rs2 : Nat) (h : Hp) : Option Rs := evs (evm d) tx_Climber_undo (85, [some (vR 0 r_0), none], [vI xs0, vI xs1, vR 0 rs2], h)
set_option maxRecDepth 100000 in
theorem e_Climber_undo_60 (d : Nat) (r_0 : Nat) (r_1 : Nat) (xs0 : Int32) (xs1 : Int32) (rs2 : Nat) (h : Hp) : L_Climber_undo_60 d r_0 r_1 xs0 xs1 rs2 h =
    bI (evm d 30 [vR 5 r_1, vI (hI (sI h rs2 4 (xs1 - xs0)) r_0 3)] (sI h rs2 4 (xs1 - xs0))) fun x2 h1 =>
    ifp (x2 = 0)
      (L_Climber_undo_85 d r_0 (0 : Int32) (hI (sI h rs2 4 (xs1 - xs0)) r_0 5) r_0 h1)
      (L_Climber_undo_85 d r_0 (1 : Int32) (hI (sI h rs2 4 (xs1 - xs0)) r_0 5) r_0 h1) := (evs_xpd _ tx_Climber_undo [60, 85] 79 _).trans rfl
set_option maxRecDepth 100000 in
theorem e_Climber_undo_85 (d : Nat) (r_0 : Nat) (xs0 : Int32) (xs1 : Int32) (rs2 : Nat) (h : Hp) : L_Climber_undo_85 d r_0 xs0 xs1 rs2 h =
    ifp (0 < (hI (sI (sI (sI h rs2 5 (xs1 - xs0)) r_0 1 ((hI (sI h rs2 5 (xs1 - xs0)) r_0 1) - (hI (sI h rs2 5 (xs1 - xs0)) r_0 3))) r_0 2 ((hI (sI (sI h rs2 5 (xs1 - xs0)) r_0 1 ((hI (sI h rs2 5 (xs1 - xs0)) r_0 1) - (hI (sI h rs2 5 (xs1 - xs0)) r_0 3))) r_0 2) - (1 : Int32))) r_0 2))
      (bR (hR (sI (sI (sI h rs2 5 (xs1 - xs0)) r_0 1 ((hI (sI h rs2 5 (xs1 - xs0)) r_0 1) - (hI (sI h rs2 5 (xs1 - xs0)) r_0 3))) r_0 2 ((hI (sI (sI h rs2 5 (xs1 - xs0)) r_0 1 ((hI (sI h rs2 5 (xs1 - xs0)) r_0 1) - (hI (sI h rs2 5 (xs1 - xs0)) r_0 3))) r_0 2) - (1 : Int32))) r_0 0) fun r1 =>
      ifp (inb ((hI (sI (sI (sI h rs2 5 (xs1 - xs0)) r_0 1 ((hI (sI h rs2 5 (xs1 - xs0)) r_0 1) - (hI (sI h rs2 5 (xs1 - xs0)) r_0 3))) r_0 2 ((hI (sI (sI h rs2 5 (xs1 - xs0)) r_0 1 ((hI (sI h rs2 5 (xs1 - xs0)) r_0 1) - (hI (sI h rs2 5 (xs1 - xs0)) r_0 3))) r_0 2) - (1 : Int32))) r_0 2) - (1 : Int32)) (hN (sI (sI (sI h rs2 5 (xs1 - xs0)) r_0 1 ((hI (sI h rs2 5 (xs1 - xs0)) r_0 1) - (hI (sI h rs2 5 (xs1 - xs0)) r_0 3))) r_0 2 ((hI (sI (sI h rs2 5 (xs1 - xs0)) r_0 1 ((hI (sI h rs2 5 (xs1 - xs0)) r_0 1) - (hI (sI h rs2 5 (xs1 - xs0)) r_0 3))) r_0 2) - (1 : Int32))) r1) = true) (
      some (none, sI (sI (sI (sI h rs2 5 (xs1 - xs0)) r_0 1 ((hI (sI h rs2 5 (xs1 - xs0)) r_0 1) - (hI (sI h rs2 5 (xs1 - xs0)) r_0 3))) r_0 2 ((hI (sI (sI h rs2 5 (xs1 - xs0)) r_0 1 ((hI (sI h rs2 5 (xs1 - xs0)) r_0 1) - (hI (sI h rs2 5 (xs1 - xs0)) r_0 3))) r_0 2) - (1 : Int32))) r_0 3 (hI (sI (sI (sI h rs2 5 (xs1 - xs0)) r_0 1 ((hI (sI h rs2 5 (xs1 - xs0)) r_0 1) - (hI (sI h rs2 5 (xs1 - xs0)) r_0 3))) r_0 2 ((hI (sI (sI h rs2 5 (xs1 - xs0)) r_0 1 ((hI (sI h rs2 5 (xs1 - xs0)) r_0 1) - (hI (sI h rs2 5 (xs1 - xs0)) r_0 3))) r_0 2) - (1 : Int32))) r1 (ix ((hI (sI (sI (sI h rs2 5 (xs1 - xs0)) r_0 1 ((hI (sI h rs2 5 (xs1 - xs0)) r_0 1) - (hI (sI h rs2 5 (xs1 - xs0)) r_0 3))) r_0 2 ((hI (sI (sI h rs2 5 (xs1 - xs0)) r_0 1 ((hI (sI h rs2 5 (xs1 - xs0)) r_0 1) - (hI (sI h rs2 5 (xs1 - xs0)) r_0 3))) r_0 2) - (1 : Int32))) r_0 2) - (1 : Int32)))))) none)
      (some (none, sI (sI (sI (sI h rs2 5 (xs1 - xs0)) r_0 1 ((hI (sI h rs2 5 (xs1 - xs0)) r_0 1) - (hI (sI h rs2 5 (xs1 - xs0)) r_0 3))) r_0 2 ((hI (sI (sI h rs2 5 (xs1 - xs0)) r_0 1 ((hI (sI h rs2 5 (xs1 - xs0)) r_0 1) - (hI (sI h rs2 5 (xs1 - xs0)) r_0 3))) r_0 2) - (1 : Int32))) r_0 3 (0 : Int32))) := (evs_xpd _ tx_Climber_undo [60, 85] 79 _).trans rfl
set_option maxRecDepth 100000 in
theorem e_Climber_undo (d : Nat) (r_0 : Nat) (r_1 : Nat) (h : Hp) : evm (d + 1) 6 [vR 0 r_0, vR 5 r_1] h =
    ifp ((hI h r_0 2) < (1 : Int32))
      (some (none, h))
      (bR (hR h r_0 0) fun r1 =>
      ifp ((nI (hN h r1)) < (hI h r_0 2))
        (some (none, h))
        (ifp ((hI h r_0 1) < 0)
          (some (none, h))
          (ifp ((40 : Int32) < (hI h r_0 1))
            (some (none, h))
            (bR (hR h r_1 2) fun r2 =>
            ifp (inb (hI h r_0 1) (hN h r2) = true) (
            ifp ((hI h r2 (ix (hI h r_0 1))) = (2 : Int32))
              (L_Climber_undo_60 d r_0 r_1 (1 : Int32) (hI h r_0 4) r_0 h)
              (L_Climber_undo_60 d r_0 r_1 (0 : Int32) (hI h r_0 4) r_0 h)) none)))) := (evs_xpd _ tx_Climber_undo [60, 85] 79 _).trans rfl
set_option maxRecDepth 100000 in
theorem e_Climber_moodOf (d : Nat) (r_0 : Nat) (r_1 : Nat) (x_2 : Int32) (h : Hp) : evm (d + 1) 7 [vR 0 r_0, vR 5 r_1, vI x_2] h =
    bR (hR h r_1 6) fun r1 =>
    bI (evm d 13 [vR 2 r1, vI x_2, vI (hI h r_0 3), vI (hI h r_0 1), vI (hI h r_0 2)] h) fun x3 h2 =>
    bI (evm d 241 [vI (9 : Int32), vI x3] h2) fun x5 h4 =>
    bI (evm d 240 [vI (0 : Int32), vI x5] h4) fun x7 h6 =>
    some (some (vI x7), h6) := (evs_xpd _ tx_Climber_moodOf [] 22 _).trans rfl
noncomputable def L_Climber_feelMoods_2 (d : Nat) (r_0 : Nat) (r_1 : Nat) (r_2 : Nat) (x_3 : Int32) (h : Hp) : Option Rs := evs (evm d) tx_Climber_feelMoods (2, [some (vR 0 r_0), some (vR 5 r_1), some (vR 20 r_2), some (vI x_3)], [], h)
set_option maxRecDepth 100000 in
theorem e_Climber_feelMoods_2 (d : Nat) (r_0 : Nat) (r_1 : Nat) (r_2 : Nat) (x_3 : Int32) (h : Hp) : L_Climber_feelMoods_2 d r_0 r_1 r_2 x_3 h =
    ifp (x_3 < (hI h r_1 8))
      (ifp (x_3 < (nI (hN h r_2)))
        (bR (hR h r_1 0) fun r1 =>
        ifp (inb x_3 (hN h r1) = true) (
        bI (evm d 7 [vR 0 r_0, vR 5 r_1, vI (hI h r1 (ix x_3))] h) fun x3 h2 =>
        ifp (inb x_3 (hN h2 r_2) = true) (
        L_Climber_feelMoods_2 d r_0 r_1 r_2 (x_3 + (1 : Int32)) (sI h2 r_2 (ix x_3) x3)) none) none)
        (some (none, h)))
      (some (none, h)) := (evs_xpd _ tx_Climber_feelMoods [2] 28 _).trans rfl
set_option maxRecDepth 100000 in
theorem e_Climber_feelMoods (d : Nat) (r_0 : Nat) (r_1 : Nat) (r_2 : Nat) (h : Hp) : evm (d + 1) 8 [vR 0 r_0, vR 5 r_1, vR 20 r_2] h =
    L_Climber_feelMoods_2 d r_0 r_1 r_2 (0 : Int32) h := (evs_xpd _ tx_Climber_feelMoods [2] 28 _).trans rfl
noncomputable def L_Climber_keepPossible_6 (d : Nat) (r_0 : Nat) (r_1 : Nat) (r_2 : Nat) (r_3 : Nat) (x_4 : Int32) (x_5 : Int32) (h : Hp) : Option Rs := evs (evm d) tx_Climber_keepPossible (6, [some (vR 0 r_0), some (vR 5 r_1), some (vR 20 r_2), some (vR 20 r_3), some (vI x_4), some (vI x_5)], [], h)
noncomputable def L_Climber_keepPossible_55 (d : Nat) (r_0 : Nat) (r_1 : Nat) (r_2 : Nat) (r_3 : Nat) (x_4 : Int32) (x_5 : Int32) (xs0 : Int32) (xs1 : Int32) (rs2 : Nat) (h : Hp) : Option Rs := evs (evm d) tx_Climber_keepPossible (55, [some (vR 0 r_0), some (vR 5 r_1), some (vR 20 r_2), some (vR 20 r_3), some (vI x_4), some (vI x_5)], [vI xs0, vI xs1, vR 20 rs2], h)
set_option maxRecDepth 100000 in
theorem e_Climber_keepPossible_6 (d : Nat) (r_0 : Nat) (r_1 : Nat) (r_2 : Nat) (r_3 : Nat) (x_4 : Int32) (x_5 : Int32) (h : Hp) : L_Climber_keepPossible_6 d r_0 r_1 r_2 r_3 x_4 x_5 h =
    ifp (x_5 < (hI h r_1 8))
      (ifp (x_5 < (nI (hN h r_2)))
        (ifp (x_5 < (nI (hN h r_3)))
          (bR (hR h r_1 0) fun r1 =>
          ifp (inb x_5 (hN h r1) = true) (
          bI (evm d 4 [vR 0 r_0, vR 5 r_1, vI (hI h r1 (ix x_5))] h) fun x3 h2 =>
          ifp (x3 = 0)
            (L_Climber_keepPossible_55 d r_0 r_1 r_2 r_3 x_4 x_5 (0 : Int32) x_5 r_3 h2)
            (ifp (inb x_5 (hN h2 r_2) = true) (
            L_Climber_keepPossible_55 d r_0 r_1 r_2 r_3 x_4 x_5 (hI h2 r_2 (ix x_5)) x_5 r_3 h2) none)) none)
          (some (some (vI x_4), h)))
        (some (some (vI x_4), h)))
      (some (some (vI x_4), h)) := (evs_xpd _ tx_Climber_keepPossible [6, 55] 47 _).trans rfl
set_option maxRecDepth 100000 in
theorem e_Climber_keepPossible_55 (d : Nat) (r_0 : Nat) (r_1 : Nat) (r_2 : Nat) (r_3 : Nat) (x_4 : Int32) (x_5 : Int32) (xs0 : Int32) (xs1 : Int32) (rs2 : Nat) (h : Hp) : L_Climber_keepPossible_55 d r_0 r_1 r_2 r_3 x_4 x_5 xs0 xs1 rs2 h =
    ifp (inb xs1 (hN h rs2) = true) (
    ifp (inb x_5 (hN (sI h rs2 (ix xs1) xs0) r_3) = true) (
    L_Climber_keepPossible_6 d r_0 r_1 r_2 r_3 (x_4 + (hI (sI h rs2 (ix xs1) xs0) r_3 (ix x_5))) (x_5 + (1 : Int32)) (sI h rs2 (ix xs1) xs0)) none) none := (evs_xpd _ tx_Climber_keepPossible [6, 55] 47 _).trans rfl
set_option maxRecDepth 100000 in
theorem e_Climber_keepPossible (d : Nat) (r_0 : Nat) (r_1 : Nat) (r_2 : Nat) (r_3 : Nat) (h : Hp) : evm (d + 1) 9 [vR 0 r_0, vR 5 r_1, vR 20 r_2, vR 20 r_3] h =
    L_Climber_keepPossible_6 d r_0 r_1 r_2 r_3 (0 : Int32) (0 : Int32) h := (evs_xpd _ tx_Climber_keepPossible [6, 55] 47 _).trans rfl
set_option maxRecDepth 100000 in
theorem e_Mark_new (d : Nat) (r_0 : Nat) (h : Hp) : evm (d + 1) 10 [vR 1 r_0] h =
    alc h fun q1 =>
    bV (evm d 0 [vR 0 q1] (sN h 0 0 6)) fun h2 =>
    ifp (inb (41 : Int32) 1000000 = true) (
    alc (sR h2 r_0 0 q1) fun q3 =>
    some (none, sR (sN (sR h2 r_0 0 q1) 20 (ix (41 : Int32)) (ix (41 : Int32))) r_0 1 q3)) none := (evs_xpd _ tx_Mark_new [] 17 _).trans rfl
set_option maxRecDepth 100000 in
theorem e_Mood_new (d : Nat) (r_0 : Nat) (h : Hp) : evm (d + 1) 11 [vR 2 r_0] h =
    ifp (inb (1000 : Int32) 1000000 = true) (
    alc h fun q1 =>
    ifp (inb (32 : Int32) 1000000 = true) (
    alc (sR (sN h 20 (ix (1000 : Int32)) (ix (1000 : Int32))) r_0 0 q1) fun q2 =>
    some (none, sR (sN (sR (sN h 20 (ix (1000 : Int32)) (ix (1000 : Int32))) r_0 0 q1) 20 (ix (32 : Int32)) (ix (32 : Int32))) r_0 1 q2)) none) none := (evs_xpd _ tx_Mood_new [] 16 _).trans rfl
set_option maxRecDepth 100000 in
theorem e_Mood_add (d : Nat) (r_0 : Nat) (x_1 : Int32) (h : Hp) : evm (d + 1) 12 [vR 2 r_0, vI x_1] h =
    bR (hR h r_0 0) fun r1 =>
    ifp ((hI h r_0 2) < (nI (hN h r1)))
      (bR (hR h r_0 0) fun r2 =>
      ifp (inb (hI h r_0 2) (hN h r2) = true) (
      some (none, sI (sI h r2 (ix (hI h r_0 2)) x_1) r_0 2 ((hI (sI h r2 (ix (hI h r_0 2)) x_1) r_0 2) + (1 : Int32)))) none)
      (some (none, h)) := (evs_xpd _ tx_Mood_add [] 24 _).trans rfl
noncomputable def L_Mood_of_15 (d : Nat) (r_0 : Nat) (x_1 : Int32) (x_2 : Int32) (x_3 : Int32) (x_4 : Int32) (x_5 : Int32) (x_6 : Int32) (h : Hp) : Option Rs := evs (evm d) tx_Mood_of (15, [some (vR 2 r_0), some (vI x_1), some (vI x_2), some (vI x_3), some (vI x_4), some (vI x_5), some (vI x_6), none], [], h)
noncomputable def L_Mood_of_85 (d : Nat) (r_0 : Nat) (x_1 : Int32) (x_2 : Int32) (x_3 : Int32) (x_4 : Int32) (x_5 : Int32) (x_6 : Int32) (x_7 : Int32) (h : Hp) : Option Rs := evs (evm d) tx_Mood_of (85, [some (vR 2 r_0), some (vI x_1), some (vI x_2), some (vI x_3), some (vI x_4), some (vI x_5), some (vI x_6), some (vI x_7)], [], h)
noncomputable def L_Mood_of_92 (d : Nat) (r_0 : Nat) (x_1 : Int32) (x_2 : Int32) (x_3 : Int32) (x_4 : Int32) (x_5 : Int32) (x_6 : Int32) (h : Hp) : Option Rs := evs (evm d) tx_Mood_of (92, [some (vR 2 r_0), some (vI x_1), some (vI x_2), some (vI x_3), some (vI x_4), some (vI x_5), some (vI x_6), none], [], h)
set_option maxRecDepth 100000 in
theorem e_Mood_of_15 (d : Nat) (r_0 : Nat) (x_1 : Int32) (x_2 : Int32) (x_3 : Int32) (x_4 : Int32) (x_5 : Int32) (x_6 : Int32) (h : Hp) : L_Mood_of_15 d r_0 x_1 x_2 x_3 x_4 x_5 x_6 h =
    ifp (x_6 < (hI h r_0 2))
      (bR (hR h r_0 0) fun r2 =>
      ifp (x_6 < (nI (hN h r2)))
        (bR (hR h r_0 0) fun r4 =>
        ifp (inb x_6 (hN h r4) = true) (
        ifp ((-5 : Int32) < (hI h r4 (ix x_6)))
          (bR (hR h r_0 1) fun r5 =>
          ifp (x_5 < (nI (hN h r5)))
            (bR (hR h r_0 1) fun r6 =>
            bI (evm d 14 [vI (hI h r4 (ix x_6)), vI x_1, vI x_2, vI x_3, vI x_4] h) fun x8 h7 =>
            ifp (inb x_5 (hN h7 r6) = true) (
            L_Mood_of_15 d r_0 x_1 x_2 x_3 x_4 (x_5 + (1 : Int32)) (x_6 + (1 : Int32)) (sI h7 r6 (ix x_5) x8)) none)
            (some (some (vI (0 : Int32)), h)))
          (L_Mood_of_85 d r_0 x_1 x_2 x_3 x_4 x_5 x_6 (hI h r4 (ix x_6)) h)) none)
        (bR (hR h r_0 1) fun r3 =>
        ifp (inb (0 : Int32) (hN h r3) = true) (
        some (some (vI (hI h r3 (ix (0 : Int32)))), h)) none))
      (bR (hR h r_0 1) fun r1 =>
      ifp (inb (0 : Int32) (hN h r1) = true) (
      some (some (vI (hI h r1 (ix (0 : Int32)))), h)) none) := (evs_xpd _ tx_Mood_of [15, 85, 92] 106 _).trans rfl
set_option maxRecDepth 100000 in
theorem e_Mood_of_85 (d : Nat) (r_0 : Nat) (x_1 : Int32) (x_2 : Int32) (x_3 : Int32) (x_4 : Int32) (x_5 : Int32) (x_6 : Int32) (x_7 : Int32) (h : Hp) : L_Mood_of_85 d r_0 x_1 x_2 x_3 x_4 x_5 x_6 x_7 h =
    ifp (x_7 = (-5 : Int32))
      (L_Mood_of_92 d r_0 x_1 x_2 x_3 x_4 x_5 x_6 h)
      (ifp (x_5 < (2 : Int32))
        (some (some (vI (0 : Int32)), h))
        (bR (hR h r_0 1) fun r1 =>
        bR (hR h r_0 1) fun r2 =>
        ifp (inb ((x_5 + (-1 : Int32)) - (1 : Int32)) (hN h r2) = true) (
        bR (hR h r_0 1) fun r3 =>
        ifp (inb (x_5 + (-1 : Int32)) (hN h r3) = true) (
        bI (evm d 15 [vI x_7, vI (hI h r2 (ix ((x_5 + (-1 : Int32)) - (1 : Int32)))), vI (hI h r3 (ix (x_5 + (-1 : Int32))))] h) fun x5 h4 =>
        ifp (inb ((x_5 + (-1 : Int32)) - (1 : Int32)) (hN h4 r1) = true) (
        L_Mood_of_15 d r_0 x_1 x_2 x_3 x_4 (x_5 + (-1 : Int32)) (x_6 + (1 : Int32)) (sI h4 r1 (ix ((x_5 + (-1 : Int32)) - (1 : Int32))) x5)) none) none) none)) := (evs_xpd _ tx_Mood_of [15, 85, 92] 106 _).trans rfl
set_option maxRecDepth 100000 in
theorem e_Mood_of_92 (d : Nat) (r_0 : Nat) (x_1 : Int32) (x_2 : Int32) (x_3 : Int32) (x_4 : Int32) (x_5 : Int32) (x_6 : Int32) (h : Hp) : L_Mood_of_92 d r_0 x_1 x_2 x_3 x_4 x_5 x_6 h =
    ifp (x_5 < (1 : Int32))
      (some (some (vI (0 : Int32)), h))
      (bR (hR h r_0 1) fun r1 =>
      bR (hR h r_0 1) fun r2 =>
      ifp (inb (x_5 - (1 : Int32)) (hN h r2) = true) (
      ifp ((hI h r2 (ix (x_5 - (1 : Int32)))) = 0)
        (ifp (inb (x_5 - (1 : Int32)) (hN h r1) = true) (
        L_Mood_of_15 d r_0 x_1 x_2 x_3 x_4 x_5 (x_6 + (1 : Int32)) (sI h r1 (ix (x_5 - (1 : Int32))) (1 : Int32))) none)
        (ifp (inb (x_5 - (1 : Int32)) (hN h r1) = true) (
        L_Mood_of_15 d r_0 x_1 x_2 x_3 x_4 x_5 (x_6 + (1 : Int32)) (sI h r1 (ix (x_5 - (1 : Int32))) (0 : Int32))) none)) none) := (evs_xpd _ tx_Mood_of [15, 85, 92] 106 _).trans rfl
set_option maxRecDepth 100000 in
theorem e_Mood_of (d : Nat) (r_0 : Nat) (x_1 : Int32) (x_2 : Int32) (x_3 : Int32) (x_4 : Int32) (h : Hp) : evm (d + 1) 13 [vR 2 r_0, vI x_1, vI x_2, vI x_3, vI x_4] h =
    ifp ((hI h r_0 2) = 0)
      (some (some (vI (1 : Int32)), h))
      (L_Mood_of_15 d r_0 x_1 x_2 x_3 x_4 (0 : Int32) (0 : Int32) h) := (evs_xpd _ tx_Mood_of [15, 85, 92] 106 _).trans rfl
set_option maxRecDepth 100000 in
theorem e_Mood_fact (d : Nat) (x_0 : Int32) (x_1 : Int32) (x_2 : Int32) (x_3 : Int32) (x_4 : Int32) (h : Hp) : evm (d + 1) 14 [vI x_0, vI x_1, vI x_2, vI x_3, vI x_4] h =
    ifp (x_0 = (-4 : Int32))
      (some (some (vI x_4), h))
      (ifp (x_0 = ((-4 : Int32) + 1))
      (some (some (vI x_3), h))
      (ifp (x_0 = (((-4 : Int32) + 1) + 1))
      (some (some (vI x_2), h))
      (ifp (x_0 = ((((-4 : Int32) + 1) + 1) + 1))
      (some (some (vI x_1), h))
      (
      some (some (vI x_0), h))))) := (evs_xpd _ tx_Mood_fact [] 17 _).trans rfl
noncomputable def L_Mood_joined_74 (d : Nat) (x_1 : Int32) (x_2 : Int32) (h : Hp) : Option Rs := evs (evm d) tx_Mood_joined (74, [none, some (vI x_1), some (vI x_2)], [], h)
noncomputable def L_Mood_joined_88 (d : Nat) (x_1 : Int32) (x_2 : Int32) (h : Hp) : Option Rs := evs (evm d) tx_Mood_joined (88, [none, some (vI x_1), some (vI x_2)], [], h)
set_option maxRecDepth 100000 in
theorem e_Mood_joined_74 (d : Nat) (x_1 : Int32) (x_2 : Int32) (h : Hp) : L_Mood_joined_74 d x_1 x_2 h =
    ifp (x_1 = 0)
      (some (some (vI (0 : Int32)), h))
      (ifp (x_2 = 0)
        (some (some (vI (0 : Int32)), h))
        (some (some (vI (1 : Int32)), h))) := (evs_xpd _ tx_Mood_joined [74, 88] 49 _).trans rfl
set_option maxRecDepth 100000 in
theorem e_Mood_joined_88 (d : Nat) (x_1 : Int32) (x_2 : Int32) (h : Hp) : L_Mood_joined_88 d x_1 x_2 h =
    ifp (x_1 = 0)
      (ifp (x_2 = 0)
        (some (some (vI (0 : Int32)), h))
        (some (some (vI (1 : Int32)), h)))
      (some (some (vI (1 : Int32)), h)) := (evs_xpd _ tx_Mood_joined [74, 88] 49 _).trans rfl
set_option maxRecDepth 100000 in
theorem e_Mood_joined (d : Nat) (x_0 : Int32) (x_1 : Int32) (x_2 : Int32) (h : Hp) : evm (d + 1) 15 [vI x_0, vI x_1, vI x_2] h =
    ifp (x_0 = (-11 : Int32))
      (L_Mood_joined_74 d x_1 x_2 h)
      (ifp (x_0 = ((-11 : Int32) + 1))
      (ifp (x_1 = x_2)
        (some (some (vI (1 : Int32)), h))
        (some (some (vI (0 : Int32)), h)))
      (ifp (x_0 = (((-11 : Int32) + 1) + 1))
      (ifp (x_1 < x_2)
        (some (some (vI (1 : Int32)), h))
        (some (some (vI (0 : Int32)), h)))
      (ifp (x_0 = ((((-11 : Int32) + 1) + 1) + 1))
      (some (some (vI (x_1 * x_2)), h))
      (ifp (x_0 = (((((-11 : Int32) + 1) + 1) + 1) + 1))
      (some (some (vI (x_1 - x_2)), h))
      (ifp (x_0 = ((((((-11 : Int32) + 1) + 1) + 1) + 1) + 1))
      (some (some (vI (x_1 + x_2)), h))
      (
      L_Mood_joined_88 d x_1 x_2 h)))))) := (evs_xpd _ tx_Mood_joined [74, 88] 49 _).trans rfl
set_option maxRecDepth 100000 in
theorem e_Pair_new (d : Nat) (r_0 : Nat) (h : Hp) : evm (d + 1) 16 [vR 3 r_0] h =
    ifp (inb (0 : Int32) 1000000 = true) (
    alc h fun q1 =>
    some (none, sR (sN h 21 (ix (0 : Int32)) (ix (0 : Int32))) r_0 0 q1)) none := (evs_xpd _ tx_Pair_new [] 12 _).trans rfl
noncomputable def L_Pair_pairs_32 (d : Nat) (r_0 : Nat) (r_1 : Nat) (x_2 : Int32) (h : Hp) : Option Rs := evs (evm d) tx_Pair_pairs (32, [some (vR 3 r_0), some (vR 5 r_1), some (vI x_2), none], [], h)
noncomputable def L_Pair_pairs_66 (d : Nat) (r_0 : Nat) (r_1 : Nat) (x_2 : Int32) (h : Hp) : Option Rs := evs (evm d) tx_Pair_pairs (66, [some (vR 3 r_0), some (vR 5 r_1), some (vI x_2), none], [], h)
noncomputable def L_Pair_pairs_79 (d : Nat) (r_0 : Nat) (r_1 : Nat) (x_2 : Int32) (x_3 : Int32) (h : Hp) : Option Rs := evs (evm d) tx_Pair_pairs (79, [some (vR 3 r_0), some (vR 5 r_1), some (vI x_2), some (vI x_3)], [], h)
set_option maxRecDepth 100000 in
theorem e_Pair_pairs_32 (d : Nat) (r_0 : Nat) (r_1 : Nat) (x_2 : Int32) (h : Hp) : L_Pair_pairs_32 d r_0 r_1 x_2 h =
    bR (hR h r_0 0) fun r1 =>
    ifp (x_2 < (nI (hN h r1)))
      (bR (hR h r_0 0) fun r3 =>
      ifp (inb x_2 (hN h r3) = true) (
      L_Pair_pairs_32 d r_0 r_1 (x_2 + (1 : Int32)) (sL h r3 (ix x_2) (0 : Int64))) none)
      (bR (hR h r_0 0) fun r2 =>
      ifp (inb (hI h r_1 7) (hN h r2) = true) (
      L_Pair_pairs_66 d r_0 r_1 (0 : Int32) (sL h r2 (ix (hI h r_1 7)) (1 : Int64))) none) := (evs_xpd _ tx_Pair_pairs [32, 66, 79] 67 _).trans rfl
set_option maxRecDepth 100000 in
theorem e_Pair_pairs_66 (d : Nat) (r_0 : Nat) (r_1 : Nat) (x_2 : Int32) (h : Hp) : L_Pair_pairs_66 d r_0 r_1 x_2 h =
    ifp ((hI h r_1 7) < x_2)
      (bR (hR h r_0 0) fun r1 =>
      ifp (inb ((hI h r_1 7) * (25 : Int32)) (hN h r1) = true) (
      some (some (vL (hL h r1 (ix ((hI h r_1 7) * (25 : Int32))))), h)) none)
      (L_Pair_pairs_79 d r_0 r_1 x_2 (hI h r_1 7) h) := (evs_xpd _ tx_Pair_pairs [32, 66, 79] 67 _).trans rfl
set_option maxRecDepth 100000 in
theorem e_Pair_pairs_79 (d : Nat) (r_0 : Nat) (r_1 : Nat) (x_2 : Int32) (x_3 : Int32) (h : Hp) : L_Pair_pairs_79 d r_0 r_1 x_2 x_3 h =
    ifp (x_3 < 0)
      (L_Pair_pairs_66 d r_0 r_1 (x_2 + (1 : Int32)) h)
      (bV (evm d 18 [vR 3 r_0, vR 5 r_1, vI x_2, vI x_3] h) fun h1 =>
      L_Pair_pairs_79 d r_0 r_1 x_2 (x_3 + (-1 : Int32)) h1) := (evs_xpd _ tx_Pair_pairs [32, 66, 79] 67 _).trans rfl
set_option maxRecDepth 100000 in
theorem e_Pair_pairs (d : Nat) (r_0 : Nat) (r_1 : Nat) (h : Hp) : evm (d + 1) 17 [vR 3 r_0, vR 5 r_1] h =
    ifp ((24 : Int32) < (hI h r_1 7))
      (some (some (vL (-1 : Int64)), h))
      (bR (hR h r_0 0) fun r1 =>
      ifp ((nI (hN h r1)) = 0)
        (ifp (inb (625 : Int32) 1000000 = true) (
        alc h fun q2 =>
        L_Pair_pairs_32 d r_0 r_1 (0 : Int32) (sR (sN h 21 (ix (625 : Int32)) (ix (625 : Int32))) r_0 0 q2)) none)
        (L_Pair_pairs_32 d r_0 r_1 (0 : Int32) h)) := (evs_xpd _ tx_Pair_pairs [32, 66, 79] 67 _).trans rfl
noncomputable def L_Pair_beat_36 (d : Nat) (r_0 : Nat) (r_1 : Nat) (x_2 : Int32) (x_3 : Int32) (y_4 : Int64) (x_6 : Int32) (h : Hp) : Option Rs := evs (evm d) tx_Pair_beat (36, [some (vR 3 r_0), some (vR 5 r_1), some (vI x_2), some (vI x_3), some (vL y_4), none, some (vI x_6), none, none, none], [], h)
noncomputable def L_Pair_beat_61 (d : Nat) (r_0 : Nat) (r_1 : Nat) (x_2 : Int32) (x_3 : Int32) (y_4 : Int64) (x_6 : Int32) (x_7 : Int32) (x_8 : Int32) (h : Hp) : Option Rs := evs (evm d) tx_Pair_beat (61, [some (vR 3 r_0), some (vR 5 r_1), some (vI x_2), some (vI x_3), some (vL y_4), none, some (vI x_6), some (vI x_7), some (vI x_8), none], [], h)
set_option maxRecDepth 100000 in
theorem e_Pair_beat_36 (d : Nat) (r_0 : Nat) (r_1 : Nat) (x_2 : Int32) (x_3 : Int32) (y_4 : Int64) (x_6 : Int32) (h : Hp) : L_Pair_beat_36 d r_0 r_1 x_2 x_3 y_4 x_6 h =
    ifp (x_6 < (hI h r_1 8))
      (bI (evm d 19 [vR 5 r_1, vI x_2, vI x_6, vI (hI h r_1 7)] h) fun x2 h1 =>
      L_Pair_beat_61 d r_0 r_1 x_2 x_3 y_4 x_6 x2 (0 : Int32) h1)
      (some (none, h)) := (evs_xpd _ tx_Pair_beat [36, 61] 76 _).trans rfl
set_option maxRecDepth 100000 in
theorem e_Pair_beat_61 (d : Nat) (r_0 : Nat) (r_1 : Nat) (x_2 : Int32) (x_3 : Int32) (y_4 : Int64) (x_6 : Int32) (x_7 : Int32) (x_8 : Int32) (h : Hp) : L_Pair_beat_61 d r_0 r_1 x_2 x_3 y_4 x_6 x_7 x_8 h =
    ifp (x_8 < (hI h r_1 8))
      (ifp (x_7 = (-1 : Int32))
        (L_Pair_beat_36 d r_0 r_1 x_2 x_3 y_4 (x_6 + (1 : Int32)) h)
        (bI (evm d 19 [vR 5 r_1, vI x_3, vI x_8, vI (0 : Int32)] h) fun x2 h1 =>
        ifp (x2 = (-1 : Int32))
          (L_Pair_beat_61 d r_0 r_1 x_2 x_3 y_4 x_6 x_7 (x_8 + (1 : Int32)) h1)
          (ifp (x2 = x_7)
            (L_Pair_beat_61 d r_0 r_1 x_2 x_3 y_4 x_6 x_7 (x_8 + (1 : Int32)) h1)
            (bR (hR h1 r_0 0) fun r3 =>
            ifp (inb ((x_7 * (25 : Int32)) + x2) (hN h1 r3) = true) (
            ifp (inb ((x_7 * (25 : Int32)) + x2) (hN h1 r3) = true) (
            L_Pair_beat_61 d r_0 r_1 x_2 x_3 y_4 x_6 x_7 (x_8 + (1 : Int32)) (sL h1 r3 (ix ((x_7 * (25 : Int32)) + x2)) ((hL h1 r3 (ix ((x_7 * (25 : Int32)) + x2))) + y_4))) none) none))))
      (L_Pair_beat_36 d r_0 r_1 x_2 x_3 y_4 (x_6 + (1 : Int32)) h) := (evs_xpd _ tx_Pair_beat [36, 61] 76 _).trans rfl
set_option maxRecDepth 100000 in
theorem e_Pair_beat (d : Nat) (r_0 : Nat) (r_1 : Nat) (x_2 : Int32) (x_3 : Int32) (h : Hp) : evm (d + 1) 18 [vR 3 r_0, vR 5 r_1, vI x_2, vI x_3] h =
    bR (hR h r_0 0) fun r1 =>
    ifp (inb ((x_2 * (25 : Int32)) + x_3) (hN h r1) = true) (
    ifp ((lg_cmp (hL h r1 (ix ((x_2 * (25 : Int32)) + x_3))) (0 : Int64)) = 0)
      (some (none, h))
      (ifp (x_2 = (hI h r_1 7))
        (ifp (x_3 = 0)
          (some (none, h))
          (L_Pair_beat_36 d r_0 r_1 x_2 x_3 (hL h r1 (ix ((x_2 * (25 : Int32)) + x_3))) (0 : Int32) h))
        (L_Pair_beat_36 d r_0 r_1 x_2 x_3 (hL h r1 (ix ((x_2 * (25 : Int32)) + x_3))) (0 : Int32) h))) none := (evs_xpd _ tx_Pair_beat [36, 61] 76 _).trans rfl
noncomputable def L_Pair_moved_38 (d : Nat) (r_0 : Nat) (xs0 : Int32) (h : Hp) : Option Rs := evs (evm d) tx_Pair_moved (38, [some (vR 5 r_0), none, none, none, none], [vI xs0], h)
set_option maxRecDepth 100000 in
theorem e_Pair_moved_38 (d : Nat) (r_0 : Nat) (xs0 : Int32) (h : Hp) : L_Pair_moved_38 d r_0 xs0 h =
    ifp (xs0 < 0)
      (some (some (vI (-1 : Int32)), h))
      (ifp ((hI h r_0 7) < xs0)
        (some (some (vI (-1 : Int32)), h))
        (bR (hR h r_0 2) fun r1 =>
        ifp (inb xs0 (hN h r1) = true) (
        ifp ((hI h r1 (ix xs0)) = (1 : Int32))
          (some (some (vI (-1 : Int32)), h))
          (some (some (vI xs0), h))) none)) := (evs_xpd _ tx_Pair_moved [38] 46 _).trans rfl
set_option maxRecDepth 100000 in
theorem e_Pair_moved (d : Nat) (r_0 : Nat) (x_1 : Int32) (x_2 : Int32) (x_3 : Int32) (h : Hp) : evm (d + 1) 19 [vR 5 r_0, vI x_1, vI x_2, vI x_3] h =
    ifp (x_1 = x_3)
      (ifp (x_2 = 0)
        (some (some (vI x_1), h))
        (some (some (vI (-1 : Int32)), h)))
      (ifp (x_3 = 0)
        (bR (hR h r_0 0) fun r2 =>
        ifp (inb x_2 (hN h r2) = true) (
        L_Pair_moved_38 d r_0 (x_1 - (hI h r2 (ix x_2))) h) none)
        (bR (hR h r_0 0) fun r1 =>
        ifp (inb x_2 (hN h r1) = true) (
        L_Pair_moved_38 d r_0 (x_1 + (hI h r1 (ix x_2))) h) none)) := (evs_xpd _ tx_Pair_moved [38] 46 _).trans rfl
set_option maxRecDepth 100000 in
theorem e_Rests_new (d : Nat) (r_0 : Nat) (h : Hp) : evm (d + 1) 20 [vR 4 r_0] h =
    ifp (inb (12 : Int32) 1000000 = true) (
    alc h fun q1 =>
    ifp (inb (12 : Int32) 1000000 = true) (
    alc (sR (sN h 21 (ix (12 : Int32)) (ix (12 : Int32))) r_0 0 q1) fun q2 =>
    ifp (inb (24 : Int32) 1000000 = true) (
    alc (sR (sN (sR (sN h 21 (ix (12 : Int32)) (ix (12 : Int32))) r_0 0 q1) 21 (ix (12 : Int32)) (ix (12 : Int32))) r_0 1 q2) fun q3 =>
    some (none, sR (sN (sR (sN (sR (sN h 21 (ix (12 : Int32)) (ix (12 : Int32))) r_0 0 q1) 21 (ix (12 : Int32)) (ix (12 : Int32))) r_0 1 q2) 21 (ix (24 : Int32)) (ix (24 : Int32))) r_0 2 q3)) none) none) none := (evs_xpd _ tx_Rests_new [] 20 _).trans rfl
noncomputable def L_Rests_rest_16 (d : Nat) (r_0 : Nat) (r_1 : Nat) (x_2 : Int32) (x_3 : Int32) (x_4 : Int32) (h : Hp) : Option Rs := evs (evm d) tx_Rests_rest (16, [some (vR 4 r_0), some (vR 5 r_1), some (vI x_2), some (vI x_3), some (vI x_4), none, none], [], h)
noncomputable def L_Rests_rest_56 (d : Nat) (r_0 : Nat) (r_1 : Nat) (x_2 : Int32) (x_3 : Int32) (x_4 : Int32) (h : Hp) : Option Rs := evs (evm d) tx_Rests_rest (56, [some (vR 4 r_0), some (vR 5 r_1), some (vI x_2), some (vI x_3), some (vI x_4), none, none], [], h)
noncomputable def L_Rests_rest_85 (d : Nat) (r_0 : Nat) (r_1 : Nat) (x_3 : Int32) (y_4 : Int64) (x_6 : Int32) (h : Hp) : Option Rs := evs (evm d) tx_Rests_rest (85, [some (vR 4 r_0), some (vR 5 r_1), none, some (vI x_3), some (vL y_4), none, some (vI x_6)], [], h)
set_option maxRecDepth 100000 in
theorem e_Rests_rest_16 (d : Nat) (r_0 : Nat) (r_1 : Nat) (x_2 : Int32) (x_3 : Int32) (x_4 : Int32) (h : Hp) : L_Rests_rest_16 d r_0 r_1 x_2 x_3 x_4 h =
    bR (hR h r_0 1) fun r1 =>
    ifp (x_4 < (nI (hN h r1)))
      (bR (hR h r_0 1) fun r2 =>
      ifp (x_4 = 0)
        (ifp (x_3 = 0) none (
        ifp (inb x_4 (hN h r2) = true) (
        L_Rests_rest_16 d r_0 r_1 x_2 x_3 (x_4 + (1 : Int32)) (sL h r2 (ix x_4) ((irem (1 : Int32) x_3).toInt64))) none))
        (ifp (inb x_4 (hN h r2) = true) (
        L_Rests_rest_16 d r_0 r_1 x_2 x_3 (x_4 + (1 : Int32)) (sL h r2 (ix x_4) (0 : Int64))) none))
      (L_Rests_rest_56 d r_0 r_1 x_2 x_3 (29 : Int32) h) := (evs_xpd _ tx_Rests_rest [16, 56, 85] 83 _).trans rfl
set_option maxRecDepth 100000 in
theorem e_Rests_rest_56 (d : Nat) (r_0 : Nat) (r_1 : Nat) (x_2 : Int32) (x_3 : Int32) (x_4 : Int32) (h : Hp) : L_Rests_rest_56 d r_0 r_1 x_2 x_3 x_4 h =
    ifp (x_4 < 0)
      (L_Rests_rest_85 d r_0 r_1 x_3 (0 : Int64) (0 : Int32) h)
      (bV (evm d 23 [vR 4 r_0, vR 5 r_1, vI x_3, vI ((x_2 >>> (x_4 &&& 31)) &&& (1 : Int32))] h) fun h1 =>
      L_Rests_rest_56 d r_0 r_1 x_2 x_3 (x_4 + (-1 : Int32)) h1) := (evs_xpd _ tx_Rests_rest [16, 56, 85] 83 _).trans rfl
set_option maxRecDepth 100000 in
theorem e_Rests_rest_85 (d : Nat) (r_0 : Nat) (r_1 : Nat) (x_3 : Int32) (y_4 : Int64) (x_6 : Int32) (h : Hp) : L_Rests_rest_85 d r_0 r_1 x_3 y_4 x_6 h =
    bI (evm d 32 [vR 5 r_1] h) fun x2 h1 =>
    ifp (x_6 < x2)
      (bR (hR h1 r_0 1) fun r3 =>
      ifp (x_6 < (nI (hN h1 r3)))
        (bR (hR h1 r_0 1) fun r4 =>
        ifp (inb x_6 (hN h1 r4) = true) (
        bR (hR h1 r_0 0) fun r5 =>
        ifp (inb x_6 (hN h1 r5) = true) (
        L_Rests_rest_85 d r_0 r_1 x_3 (y_4 + ((hL h1 r4 (ix x_6)) * (hL h1 r5 (ix x_6)))) (x_6 + (1 : Int32)) h1) none) none)
        (ifp (x_3.toInt64 = 0) none (
        some (some (vI ((lrem y_4 x_3.toInt64).toInt32)), h1))))
      (ifp (x_3.toInt64 = 0) none (
      some (some (vI ((lrem y_4 x_3.toInt64).toInt32)), h1))) := (evs_xpd _ tx_Rests_rest [16, 56, 85] 83 _).trans rfl
set_option maxRecDepth 100000 in
theorem e_Rests_rest (d : Nat) (r_0 : Nat) (r_1 : Nat) (x_2 : Int32) (x_3 : Int32) (h : Hp) : evm (d + 1) 21 [vR 4 r_0, vR 5 r_1, vI x_2, vI x_3] h =
    ifp (x_3 < (1 : Int32))
      (some (some (vI (0 : Int32)), h))
      (bV (evm d 22 [vR 4 r_0, vR 5 r_1, vI x_3] h) fun h1 =>
      L_Rests_rest_16 d r_0 r_1 x_2 x_3 (0 : Int32) h1) := (evs_xpd _ tx_Rests_rest [16, 56, 85] 83 _).trans rfl
noncomputable def L_Rests_findFirst_2 (d : Nat) (r_0 : Nat) (r_1 : Nat) (x_2 : Int32) (x_3 : Int32) (h : Hp) : Option Rs := evs (evm d) tx_Rests_findFirst (2, [some (vR 4 r_0), some (vR 5 r_1), some (vI x_2), some (vI x_3), none, none], [], h)
noncomputable def L_Rests_findFirst_29 (d : Nat) (r_0 : Nat) (r_1 : Nat) (x_2 : Int32) (x_3 : Int32) (x_4 : Int32) (h : Hp) : Option Rs := evs (evm d) tx_Rests_findFirst (29, [some (vR 4 r_0), some (vR 5 r_1), some (vI x_2), some (vI x_3), some (vI x_4), none], [], h)
set_option maxRecDepth 100000 in
theorem e_Rests_findFirst_2 (d : Nat) (r_0 : Nat) (r_1 : Nat) (x_2 : Int32) (x_3 : Int32) (h : Hp) : L_Rests_findFirst_2 d r_0 r_1 x_2 x_3 h =
    bR (hR h r_0 0) fun r1 =>
    ifp (x_3 < (nI (hN h r1)))
      (bR (hR h r_0 0) fun r2 =>
      ifp (x_3 = 0)
        (ifp (inb x_3 (hN h r2) = true) (
        L_Rests_findFirst_29 d r_0 r_1 x_2 x_3 (0 : Int32) (sL h r2 (ix x_3) (1 : Int64))) none)
        (ifp (inb x_3 (hN h r2) = true) (
        L_Rests_findFirst_29 d r_0 r_1 x_2 x_3 (0 : Int32) (sL h r2 (ix x_3) (0 : Int64))) none))
      (some (none, h)) := (evs_xpd _ tx_Rests_findFirst [2, 29] 63 _).trans rfl
set_option maxRecDepth 100000 in
theorem e_Rests_findFirst_29 (d : Nat) (r_0 : Nat) (r_1 : Nat) (x_2 : Int32) (x_3 : Int32) (x_4 : Int32) (h : Hp) : L_Rests_findFirst_29 d r_0 r_1 x_2 x_3 x_4 h =
    ifp (x_4 < (hI h r_1 8))
      (bR (hR h r_1 0) fun r2 =>
      ifp (inb x_4 (hN h r2) = true) (
      bR (hR h r_0 0) fun r3 =>
      ifp (inb x_3 (hN h r3) = true) (
      ifp ((x_3 - (hI h r2 (ix x_4))) < 0)
        (ifp (inb x_3 (hN h r3) = true) (
        L_Rests_findFirst_29 d r_0 r_1 x_2 x_3 (x_4 + (1 : Int32)) (sL h r3 (ix x_3) ((hL h r3 (ix x_3)) + (0 : Int64)))) none)
        (bR (hR h r_0 0) fun r4 =>
        ifp (inb (x_3 - (hI h r2 (ix x_4))) (hN h r4) = true) (
        ifp (inb x_3 (hN h r3) = true) (
        L_Rests_findFirst_29 d r_0 r_1 x_2 x_3 (x_4 + (1 : Int32)) (sL h r3 (ix x_3) ((hL h r3 (ix x_3)) + (hL h r4 (ix (x_3 - (hI h r2 (ix x_4)))))))) none) none)) none) none)
      (bR (hR h r_0 0) fun r1 =>
      ifp (inb x_3 (hN h r1) = true) (
      ifp (x_2.toInt64 = 0) none (
      ifp (inb x_3 (hN h r1) = true) (
      L_Rests_findFirst_2 d r_0 r_1 x_2 (x_3 + (1 : Int32)) (sL h r1 (ix x_3) (lrem (hL h r1 (ix x_3)) x_2.toInt64))) none)) none) := (evs_xpd _ tx_Rests_findFirst [2, 29] 63 _).trans rfl
set_option maxRecDepth 100000 in
theorem e_Rests_findFirst (d : Nat) (r_0 : Nat) (r_1 : Nat) (x_2 : Int32) (h : Hp) : evm (d + 1) 22 [vR 4 r_0, vR 5 r_1, vI x_2] h =
    L_Rests_findFirst_2 d r_0 r_1 x_2 (0 : Int32) h := (evs_xpd _ tx_Rests_findFirst [2, 29] 63 _).trans rfl
noncomputable def L_Rests_square_31 (d : Nat) (r_0 : Nat) (r_1 : Nat) (x_2 : Int32) (x_3 : Int32) (x_4 : Int32) (x_5 : Int32) (h : Hp) : Option Rs := evs (evm d) tx_Rests_square (31, [some (vR 4 r_0), some (vR 5 r_1), some (vI x_2), some (vI x_3), some (vI x_4), some (vI x_5), none, none, none], [], h)
noncomputable def L_Rests_square_58 (d : Nat) (r_0 : Nat) (r_1 : Nat) (x_2 : Int32) (x_3 : Int32) (x_4 : Int32) (x_5 : Int32) (h : Hp) : Option Rs := evs (evm d) tx_Rests_square (58, [some (vR 4 r_0), some (vR 5 r_1), some (vI x_2), some (vI x_3), some (vI x_4), some (vI x_5), none, none, none], [], h)
noncomputable def L_Rests_square_68 (d : Nat) (r_0 : Nat) (r_1 : Nat) (x_2 : Int32) (x_3 : Int32) (x_4 : Int32) (x_5 : Int32) (x_6 : Int32) (h : Hp) : Option Rs := evs (evm d) tx_Rests_square (68, [some (vR 4 r_0), some (vR 5 r_1), some (vI x_2), some (vI x_3), some (vI x_4), some (vI x_5), some (vI x_6), none, none], [], h)
noncomputable def L_Rests_square_125 (d : Nat) (r_0 : Nat) (r_1 : Nat) (x_2 : Int32) (x_4 : Int32) (x_5 : Int32) (h : Hp) : Option Rs := evs (evm d) tx_Rests_square (125, [some (vR 4 r_0), some (vR 5 r_1), some (vI x_2), none, some (vI x_4), some (vI x_5), none, none, none], [], h)
noncomputable def L_Rests_square_147 (d : Nat) (r_0 : Nat) (r_1 : Nat) (x_2 : Int32) (x_4 : Int32) (x_5 : Int32) (y_6 : Int64) (x_8 : Int32) (h : Hp) : Option Rs := evs (evm d) tx_Rests_square (147, [some (vR 4 r_0), some (vR 5 r_1), some (vI x_2), none, some (vI x_4), some (vI x_5), some (vL y_6), none, some (vI x_8)], [], h)
noncomputable def L_Rests_square_191 (d : Nat) (r_0 : Nat) (x_2 : Int32) (x_4 : Int32) (x_5 : Int32) (h : Hp) : Option Rs := evs (evm d) tx_Rests_square (191, [some (vR 4 r_0), none, some (vI x_2), none, some (vI x_4), some (vI x_5), none, none, none], [], h)
set_option maxRecDepth 100000 in
theorem e_Rests_square_31 (d : Nat) (r_0 : Nat) (r_1 : Nat) (x_2 : Int32) (x_3 : Int32) (x_4 : Int32) (x_5 : Int32) (h : Hp) : L_Rests_square_31 d r_0 r_1 x_2 x_3 x_4 x_5 h =
    bR (hR h r_0 2) fun r1 =>
    ifp (x_5 < (nI (hN h r1)))
      (bR (hR h r_0 2) fun r2 =>
      ifp (inb x_5 (hN h r2) = true) (
      L_Rests_square_31 d r_0 r_1 x_2 x_3 x_4 (x_5 + (1 : Int32)) (sL h r2 (ix x_5) (0 : Int64))) none)
      (L_Rests_square_58 d r_0 r_1 x_2 x_3 x_4 (0 : Int32) h) := (evs_xpd _ tx_Rests_square [31, 58, 68, 125, 147, 191] 127 _).trans rfl
set_option maxRecDepth 100000 in
theorem e_Rests_square_58 (d : Nat) (r_0 : Nat) (r_1 : Nat) (x_2 : Int32) (x_3 : Int32) (x_4 : Int32) (x_5 : Int32) (h : Hp) : L_Rests_square_58 d r_0 r_1 x_2 x_3 x_4 x_5 h =
    ifp (x_5 < x_4)
      (L_Rests_square_68 d r_0 r_1 x_2 x_3 x_4 x_5 (0 : Int32) h)
      (L_Rests_square_125 d r_0 r_1 x_2 x_4 (((2 : Int32) * x_4) - (1 : Int32)) h) := (evs_xpd _ tx_Rests_square [31, 58, 68, 125, 147, 191] 127 _).trans rfl
set_option maxRecDepth 100000 in
theorem e_Rests_square_68 (d : Nat) (r_0 : Nat) (r_1 : Nat) (x_2 : Int32) (x_3 : Int32) (x_4 : Int32) (x_5 : Int32) (x_6 : Int32) (h : Hp) : L_Rests_square_68 d r_0 r_1 x_2 x_3 x_4 x_5 x_6 h =
    ifp (x_6 < x_4)
      (bR (hR h r_0 2) fun r1 =>
      ifp (inb ((x_5 + x_6) + x_3) (hN h r1) = true) (
      bR (hR h r_0 1) fun r2 =>
      ifp (inb x_5 (hN h r2) = true) (
      bR (hR h r_0 1) fun r3 =>
      ifp (inb x_6 (hN h r3) = true) (
      ifp (inb ((x_5 + x_6) + x_3) (hN h r1) = true) (
      L_Rests_square_68 d r_0 r_1 x_2 x_3 x_4 x_5 (x_6 + (1 : Int32)) (sL h r1 (ix ((x_5 + x_6) + x_3)) ((hL h r1 (ix ((x_5 + x_6) + x_3))) + ((hL h r2 (ix x_5)) * (hL h r3 (ix x_6)))))) none) none) none) none)
      (L_Rests_square_58 d r_0 r_1 x_2 x_3 x_4 (x_5 + (1 : Int32)) h) := (evs_xpd _ tx_Rests_square [31, 58, 68, 125, 147, 191] 127 _).trans rfl
set_option maxRecDepth 100000 in
theorem e_Rests_square_125 (d : Nat) (r_0 : Nat) (r_1 : Nat) (x_2 : Int32) (x_4 : Int32) (x_5 : Int32) (h : Hp) : L_Rests_square_125 d r_0 r_1 x_2 x_4 x_5 h =
    ifp (x_5 < x_4)
      (L_Rests_square_191 d r_0 x_2 x_4 (0 : Int32) h)
      (bR (hR h r_0 2) fun r1 =>
      ifp (inb x_5 (hN h r1) = true) (
      ifp (x_2.toInt64 = 0) none (
      L_Rests_square_147 d r_0 r_1 x_2 x_4 x_5 (lrem (hL h r1 (ix x_5)) x_2.toInt64) (0 : Int32) h)) none) := (evs_xpd _ tx_Rests_square [31, 58, 68, 125, 147, 191] 127 _).trans rfl
set_option maxRecDepth 100000 in
theorem e_Rests_square_147 (d : Nat) (r_0 : Nat) (r_1 : Nat) (x_2 : Int32) (x_4 : Int32) (x_5 : Int32) (y_6 : Int64) (x_8 : Int32) (h : Hp) : L_Rests_square_147 d r_0 r_1 x_2 x_4 x_5 y_6 x_8 h =
    ifp (x_8 < (hI h r_1 8))
      (bR (hR h r_0 2) fun r1 =>
      bR (hR h r_1 0) fun r2 =>
      ifp (inb x_8 (hN h r2) = true) (
      ifp (inb (x_5 - (hI h r2 (ix x_8))) (hN h r1) = true) (
      ifp (inb (x_5 - (hI h r2 (ix x_8))) (hN h r1) = true) (
      L_Rests_square_147 d r_0 r_1 x_2 x_4 x_5 y_6 (x_8 + (1 : Int32)) (sL h r1 (ix (x_5 - (hI h r2 (ix x_8)))) ((hL h r1 (ix (x_5 - (hI h r2 (ix x_8))))) + y_6))) none) none) none)
      (L_Rests_square_125 d r_0 r_1 x_2 x_4 (x_5 + (-1 : Int32)) h) := (evs_xpd _ tx_Rests_square [31, 58, 68, 125, 147, 191] 127 _).trans rfl
set_option maxRecDepth 100000 in
theorem e_Rests_square_191 (d : Nat) (r_0 : Nat) (x_2 : Int32) (x_4 : Int32) (x_5 : Int32) (h : Hp) : L_Rests_square_191 d r_0 x_2 x_4 x_5 h =
    ifp (x_5 < x_4)
      (bR (hR h r_0 1) fun r1 =>
      bR (hR h r_0 2) fun r2 =>
      ifp (inb x_5 (hN h r2) = true) (
      ifp (x_2.toInt64 = 0) none (
      ifp (inb x_5 (hN h r1) = true) (
      L_Rests_square_191 d r_0 x_2 x_4 (x_5 + (1 : Int32)) (sL h r1 (ix x_5) (lrem (hL h r2 (ix x_5)) x_2.toInt64))) none)) none)
      (some (none, h)) := (evs_xpd _ tx_Rests_square [31, 58, 68, 125, 147, 191] 127 _).trans rfl
set_option maxRecDepth 100000 in
theorem e_Rests_square (d : Nat) (r_0 : Nat) (r_1 : Nat) (x_2 : Int32) (x_3 : Int32) (h : Hp) : evm (d + 1) 23 [vR 4 r_0, vR 5 r_1, vI x_2, vI x_3] h =
    bI (evm d 32 [vR 5 r_1] h) fun x2 h1 =>
    ifp ((12 : Int32) < x2)
      (some (none, h1))
      (ifp (x_3 < 0)
        (some (none, h1))
        (ifp ((1 : Int32) < x_3)
          (some (none, h1))
          (ifp (x_2 < (1 : Int32))
            (some (none, h1))
            (L_Rests_square_31 d r_0 r_1 x_2 x_3 x2 (0 : Int32) h1)))) := (evs_xpd _ tx_Rests_square [31, 58, 68, 125, 147, 191] 127 _).trans rfl
set_option maxRecDepth 100000 in
theorem e_Stair_new (d : Nat) (r_0 : Nat) (h : Hp) : evm (d + 1) 24 [vR 5 r_0] h =
    ifp (inb (6 : Int32) 1000000 = true) (
    alc h fun q1 =>
    ifp (inb (13 : Int32) 1000000 = true) (
    alc (sR (sN h 20 (ix (6 : Int32)) (ix (6 : Int32))) r_0 0 q1) fun q2 =>
    ifp (inb (41 : Int32) 1000000 = true) (
    alc (sR (sN (sR (sN h 20 (ix (6 : Int32)) (ix (6 : Int32))) r_0 0 q1) 20 (ix (13 : Int32)) (ix (13 : Int32))) r_0 1 q2) fun q3 =>
    ifp (inb (13 : Int32) 1000000 = true) (
    alc (sR (sN (sR (sN (sR (sN h 20 (ix (6 : Int32)) (ix (6 : Int32))) r_0 0 q1) 20 (ix (13 : Int32)) (ix (13 : Int32))) r_0 1 q2) 20 (ix (41 : Int32)) (ix (41 : Int32))) r_0 2 q3) fun q4 =>
    ifp (inb (41 : Int32) 1000000 = true) (
    alc (sR (sN (sR (sN (sR (sN (sR (sN h 20 (ix (6 : Int32)) (ix (6 : Int32))) r_0 0 q1) 20 (ix (13 : Int32)) (ix (13 : Int32))) r_0 1 q2) 20 (ix (41 : Int32)) (ix (41 : Int32))) r_0 2 q3) 20 (ix (13 : Int32)) (ix (13 : Int32))) r_0 3 q4) fun q5 =>
    ifp (inb (41 : Int32) 1000000 = true) (
    alc (sR (sN (sR (sN (sR (sN (sR (sN (sR (sN h 20 (ix (6 : Int32)) (ix (6 : Int32))) r_0 0 q1) 20 (ix (13 : Int32)) (ix (13 : Int32))) r_0 1 q2) 20 (ix (41 : Int32)) (ix (41 : Int32))) r_0 2 q3) 20 (ix (13 : Int32)) (ix (13 : Int32))) r_0 3 q4) 20 (ix (41 : Int32)) (ix (41 : Int32))) r_0 4 q5) fun q6 =>
    alc (sR (sN (sR (sN (sR (sN (sR (sN (sR (sN (sR (sN h 20 (ix (6 : Int32)) (ix (6 : Int32))) r_0 0 q1) 20 (ix (13 : Int32)) (ix (13 : Int32))) r_0 1 q2) 20 (ix (41 : Int32)) (ix (41 : Int32))) r_0 2 q3) 20 (ix (13 : Int32)) (ix (13 : Int32))) r_0 3 q4) 20 (ix (41 : Int32)) (ix (41 : Int32))) r_0 4 q5) 20 (ix (41 : Int32)) (ix (41 : Int32))) r_0 5 q6) fun q7 =>
    bV (evm d 11 [vR 2 q7] (sN (sR (sN (sR (sN (sR (sN (sR (sN (sR (sN (sR (sN h 20 (ix (6 : Int32)) (ix (6 : Int32))) r_0 0 q1) 20 (ix (13 : Int32)) (ix (13 : Int32))) r_0 1 q2) 20 (ix (41 : Int32)) (ix (41 : Int32))) r_0 2 q3) 20 (ix (13 : Int32)) (ix (13 : Int32))) r_0 3 q4) 20 (ix (41 : Int32)) (ix (41 : Int32))) r_0 4 q5) 20 (ix (41 : Int32)) (ix (41 : Int32))) r_0 5 q6) 2 0 3)) fun h8 =>
    some (none, sR h8 r_0 6 q7)) none) none) none) none) none) none := (evs_xpd _ tx_Stair_new [] 37 _).trans rfl
noncomputable def L_Stair_clear_2 (d : Nat) (r_0 : Nat) (x_1 : Int32) (h : Hp) : Option Rs := evs (evm d) tx_Stair_clear (2, [some (vR 5 r_0), some (vI x_1)], [], h)
noncomputable def L_Stair_clear_23 (d : Nat) (r_0 : Nat) (x_1 : Int32) (h : Hp) : Option Rs := evs (evm d) tx_Stair_clear (23, [some (vR 5 r_0), some (vI x_1)], [], h)
set_option maxRecDepth 100000 in
theorem e_Stair_clear_2 (d : Nat) (r_0 : Nat) (x_1 : Int32) (h : Hp) : L_Stair_clear_2 d r_0 x_1 h =
    ifp ((40 : Int32) < x_1)
      (L_Stair_clear_23 d r_0 (0 : Int32) h)
      (bR (hR h r_0 2) fun r1 =>
      ifp (inb x_1 (hN h r1) = true) (
      L_Stair_clear_2 d r_0 (x_1 + (1 : Int32)) (sI h r1 (ix x_1) (0 : Int32))) none) := (evs_xpd _ tx_Stair_clear [2, 23] 64 _).trans rfl
set_option maxRecDepth 100000 in
theorem e_Stair_clear_23 (d : Nat) (r_0 : Nat) (x_1 : Int32) (h : Hp) : L_Stair_clear_23 d r_0 x_1 h =
    ifp ((12 : Int32) < x_1)
      (bR (hR h r_0 6) fun r1 =>
      some (none, sI (sI (sI (sI (sI (sI (sI (sI (sI (sI (sI h r1 2 (0 : Int32)) r_0 7 (1 : Int32)) r_0 8 (0 : Int32)) r_0 9 (0 : Int32)) r_0 10 (-1 : Int32)) r_0 11 (0 : Int32)) r_0 12 (-1 : Int32)) r_0 13 (0 : Int32)) r_0 14 (40 : Int32)) r_0 15 (-1 : Int32)) r_0 16 (0 : Int32)))
      (bR (hR h r_0 3) fun r2 =>
      ifp (inb x_1 (hN h r2) = true) (
      L_Stair_clear_23 d r_0 (x_1 + (1 : Int32)) (sI h r2 (ix x_1) (0 : Int32))) none) := (evs_xpd _ tx_Stair_clear [2, 23] 64 _).trans rfl
set_option maxRecDepth 100000 in
theorem e_Stair_clear (d : Nat) (r_0 : Nat) (h : Hp) : evm (d + 1) 25 [vR 5 r_0] h =
    L_Stair_clear_2 d r_0 (0 : Int32) h := (evs_xpd _ tx_Stair_clear [2, 23] 64 _).trans rfl
noncomputable def L_Stair_finish_19 (d : Nat) (r_0 : Nat) (x_1 : Int32) (h : Hp) : Option Rs := evs (evm d) tx_Stair_finish (19, [some (vR 5 r_0), some (vI x_1)], [], h)
noncomputable def L_Stair_finish_43 (d : Nat) (r_0 : Nat) (x_1 : Int32) (h : Hp) : Option Rs := evs (evm d) tx_Stair_finish (43, [some (vR 5 r_0), some (vI x_1)], [], h)
set_option maxRecDepth 100000 in
theorem e_Stair_finish_19 (d : Nat) (r_0 : Nat) (x_1 : Int32) (h : Hp) : L_Stair_finish_19 d r_0 x_1 h =
    bR (hR h r_0 1) fun r1 =>
    ifp (x_1 < (nI (hN h r1)))
      (bR (hR h r_0 1) fun r2 =>
      ifp (inb x_1 (hN h r2) = true) (
      L_Stair_finish_19 d r_0 (x_1 + (1 : Int32)) (sI h r2 (ix x_1) (0 : Int32))) none)
      (L_Stair_finish_43 d r_0 (0 : Int32) h) := (evs_xpd _ tx_Stair_finish [19, 43] 51 _).trans rfl
set_option maxRecDepth 100000 in
theorem e_Stair_finish_43 (d : Nat) (r_0 : Nat) (x_1 : Int32) (h : Hp) : L_Stair_finish_43 d r_0 x_1 h =
    ifp (x_1 < (hI h r_0 8))
      (bR (hR h r_0 1) fun r3 =>
      bR (hR h r_0 0) fun r4 =>
      ifp (inb x_1 (hN h r4) = true) (
      ifp (inb (hI h r4 (ix x_1)) (hN h r3) = true) (
      L_Stair_finish_43 d r_0 (x_1 + (1 : Int32)) (sI h r3 (ix (hI h r4 (ix x_1))) (x_1 + (1 : Int32)))) none) none)
      (bV (evm d 35 [vR 5 r_0] h) fun h1 =>
      bV (evm d 36 [vR 5 r_0] h1) fun h2 =>
      some (none, h2)) := (evs_xpd _ tx_Stair_finish [19, 43] 51 _).trans rfl
set_option maxRecDepth 100000 in
theorem e_Stair_finish (d : Nat) (r_0 : Nat) (h : Hp) : evm (d + 1) 26 [vR 5 r_0] h =
    ifp ((hI h r_0 8) = 0)
      (bV (evm d 27 [vR 5 r_0, vI (1 : Int32)] h) fun h1 =>
      bV (evm d 27 [vR 5 r_0, vI (2 : Int32)] h1) fun h2 =>
      L_Stair_finish_19 d r_0 (0 : Int32) h2)
      (L_Stair_finish_19 d r_0 (0 : Int32) h) := (evs_xpd _ tx_Stair_finish [19, 43] 51 _).trans rfl
noncomputable def L_Stair_addStride_26 (d : Nat) (r_0 : Nat) (x_1 : Int32) (x_2 : Int32) (h : Hp) : Option Rs := evs (evm d) tx_Stair_addStride (26, [some (vR 5 r_0), some (vI x_1), some (vI x_2)], [], h)
noncomputable def L_Stair_addStride_62 (d : Nat) (r_0 : Nat) (x_1 : Int32) (x_2 : Int32) (h : Hp) : Option Rs := evs (evm d) tx_Stair_addStride (62, [some (vR 5 r_0), some (vI x_1), some (vI x_2)], [], h)
set_option maxRecDepth 100000 in
theorem e_Stair_addStride_26 (d : Nat) (r_0 : Nat) (x_1 : Int32) (x_2 : Int32) (h : Hp) : L_Stair_addStride_26 d r_0 x_1 x_2 h =
    ifp (0 < x_2)
      (bR (hR h r_0 0) fun r1 =>
      ifp (inb (x_2 - (1 : Int32)) (hN h r1) = true) (
      ifp (x_1 < (hI h r1 (ix (x_2 - (1 : Int32)))))
        (bR (hR h r_0 0) fun r2 =>
        bR (hR h r_0 0) fun r3 =>
        ifp (inb (x_2 - (1 : Int32)) (hN h r3) = true) (
        ifp (inb x_2 (hN h r2) = true) (
        L_Stair_addStride_26 d r_0 x_1 (x_2 + (-1 : Int32)) (sI h r2 (ix x_2) (hI h r3 (ix (x_2 - (1 : Int32)))))) none) none)
        (L_Stair_addStride_62 d r_0 x_1 x_2 h)) none)
      (L_Stair_addStride_62 d r_0 x_1 x_2 h) := (evs_xpd _ tx_Stair_addStride [26, 62] 61 _).trans rfl
set_option maxRecDepth 100000 in
theorem e_Stair_addStride_62 (d : Nat) (r_0 : Nat) (x_1 : Int32) (x_2 : Int32) (h : Hp) : L_Stair_addStride_62 d r_0 x_1 x_2 h =
    bR (hR h r_0 0) fun r1 =>
    ifp (inb x_2 (hN h r1) = true) (
    some (none, sI (sI (sI h r1 (ix x_2) x_1) r_0 8 ((hI (sI h r1 (ix x_2) x_1) r_0 8) + (1 : Int32))) r_0 9 ((hI (sI (sI h r1 (ix x_2) x_1) r_0 8 ((hI (sI h r1 (ix x_2) x_1) r_0 8) + (1 : Int32))) r_0 9) ||| ((1 : Int32) <<< (x_1 &&& 31))))) none := (evs_xpd _ tx_Stair_addStride [26, 62] 61 _).trans rfl
set_option maxRecDepth 100000 in
theorem e_Stair_addStride (d : Nat) (r_0 : Nat) (x_1 : Int32) (h : Hp) : evm (d + 1) 27 [vR 5 r_0, vI x_1] h =
    ifp ((hI h r_0 8) < (6 : Int32))
      (ifp (x_1 < (1 : Int32))
        (some (none, h))
        (ifp ((12 : Int32) < x_1)
          (some (none, h))
          (L_Stair_addStride_26 d r_0 x_1 (hI h r_0 8) h)))
      (some (none, h)) := (evs_xpd _ tx_Stair_addStride [26, 62] 61 _).trans rfl
set_option maxRecDepth 100000 in
theorem e_Stair_tells (d : Nat) (r_0 : Nat) (x_1 : Int32) (h : Hp) : evm (d + 1) 28 [vR 5 r_0, vI x_1] h =
    ifp (x_1 < (1 : Int32))
      (some (some (vI (0 : Int32)), h))
      (ifp ((12 : Int32) < x_1)
        (some (some (vI (0 : Int32)), h))
        (ifp ((((hI h r_0 9) >>> (x_1 &&& 31)) &&& (1 : Int32)) = 0)
          (some (some (vI (0 : Int32)), h))
          (some (some (vI (1 : Int32)), h)))) := (evs_xpd _ tx_Stair_tells [] 22 _).trans rfl
set_option maxRecDepth 100000 in
theorem e_Stair_isBarred (d : Nat) (r_0 : Nat) (x_1 : Int32) (x_2 : Int32) (h : Hp) : evm (d + 1) 29 [vR 5 r_0, vI x_1, vI x_2] h =
    ifp (x_1 < 0)
      (some (some (vI (0 : Int32)), h))
      (ifp ((12 : Int32) < x_1)
        (some (some (vI (0 : Int32)), h))
        (bR (hR h r_0 3) fun r1 =>
        ifp (inb x_1 (hN h r1) = true) (
        ifp ((((hI h r1 (ix x_1)) >>> (x_2 &&& 31)) &&& (1 : Int32)) = 0)
          (some (some (vI (0 : Int32)), h))
          (some (some (vI (1 : Int32)), h))) none)) := (evs_xpd _ tx_Stair_isBarred [] 23 _).trans rfl
set_option maxRecDepth 100000 in
theorem e_Stair_isGreat (d : Nat) (r_0 : Nat) (x_1 : Int32) (h : Hp) : evm (d + 1) 30 [vR 5 r_0, vI x_1] h =
    ifp ((hI h r_0 15) = (-1 : Int32))
      (some (some (vI (0 : Int32)), h))
      (ifp (x_1 < (hI h r_0 15))
        (some (some (vI (0 : Int32)), h))
        (some (some (vI (1 : Int32)), h))) := (evs_xpd _ tx_Stair_isGreat [] 17 _).trans rfl
set_option maxRecDepth 100000 in
theorem e_Stair_footFits (d : Nat) (r_0 : Nat) (x_1 : Int32) (h : Hp) : evm (d + 1) 31 [vR 5 r_0, vI x_1] h =
    ifp ((hI h r_0 12) = (-1 : Int32))
      (some (some (vI (1 : Int32)), h))
      (ifp ((hI h r_0 12) = (x_1 &&& (1 : Int32)))
        (some (some (vI (1 : Int32)), h))
        (some (some (vI (0 : Int32)), h))) := (evs_xpd _ tx_Stair_footFits [] 19 _).trans rfl
set_option maxRecDepth 100000 in
theorem e_Stair_longest (d : Nat) (r_0 : Nat) (h : Hp) : evm (d + 1) 32 [vR 5 r_0] h =
    ifp (0 < (hI h r_0 8))
      (bR (hR h r_0 0) fun r1 =>
      ifp (inb ((hI h r_0 8) - (1 : Int32)) (hN h r1) = true) (
      some (some (vI (hI h r1 (ix ((hI h r_0 8) - (1 : Int32))))), h)) none)
      (some (some (vI (1 : Int32)), h)) := (evs_xpd _ tx_Stair_longest [] 18 _).trans rfl
set_option maxRecDepth 100000 in
theorem e_Stair_creakKinds (d : Nat) (r_0 : Nat) (h : Hp) : evm (d + 1) 33 [vR 5 r_0] h =
    ifp ((hI h r_0 10) = (-1 : Int32))
      (some (some (vI (1 : Int32)), h))
      (some (some (vI ((hI h r_0 10) + (1 : Int32))), h)) := (evs_xpd _ tx_Stair_creakKinds [] 16 _).trans rfl
set_option maxRecDepth 100000 in
theorem e_Stair_greatKinds (d : Nat) (r_0 : Nat) (h : Hp) : evm (d + 1) 34 [vR 5 r_0] h =
    ifp ((hI h r_0 15) = (-1 : Int32))
      (some (some (vI (1 : Int32)), h))
      (some (some (vI ((hI h r_0 16) + (1 : Int32))), h)) := (evs_xpd _ tx_Stair_greatKinds [] 16 _).trans rfl
noncomputable def L_Stair_findFarthest_10 (d : Nat) (r_0 : Nat) (x_1 : Int32) (x_2 : Int32) (h : Hp) : Option Rs := evs (evm d) tx_Stair_findFarthest (10, [some (vR 5 r_0), some (vI x_1), some (vI x_2)], [], h)
set_option maxRecDepth 100000 in
theorem e_Stair_findFarthest_10 (d : Nat) (r_0 : Nat) (x_1 : Int32) (x_2 : Int32) (h : Hp) : L_Stair_findFarthest_10 d r_0 x_1 x_2 h =
    ifp (x_2 < 0)
      (some (none, h))
      (bR (hR h r_0 5) fun r1 =>
      ifp (inb x_2 (hN h r1) = true) (
      bR (hR (sI h r1 (ix x_2) x_1) r_0 2) fun r2 =>
      ifp (inb x_2 (hN (sI h r1 (ix x_2) x_1) r2) = true) (
      ifp ((hI (sI h r1 (ix x_2) x_1) r2 (ix x_2)) = (3 : Int32))
        (L_Stair_findFarthest_10 d r_0 x_2 (x_2 + (-1 : Int32)) (sI h r1 (ix x_2) x_1))
        (L_Stair_findFarthest_10 d r_0 x_1 (x_2 + (-1 : Int32)) (sI h r1 (ix x_2) x_1))) none) none) := (evs_xpd _ tx_Stair_findFarthest [10] 29 _).trans rfl
set_option maxRecDepth 100000 in
theorem e_Stair_findFarthest (d : Nat) (r_0 : Nat) (h : Hp) : evm (d + 1) 35 [vR 5 r_0] h =
    L_Stair_findFarthest_10 d r_0 (hI h r_0 7) (hI h r_0 7) h := (evs_xpd _ tx_Stair_findFarthest [10] 29 _).trans rfl
noncomputable def L_Stair_findHeaps_5 (d : Nat) (r_0 : Nat) (x_1 : Int32) (h : Hp) : Option Rs := evs (evm d) tx_Stair_findHeaps (5, [some (vR 5 r_0), some (vI x_1)], [], h)
set_option maxRecDepth 100000 in
theorem e_Stair_findHeaps_5 (d : Nat) (r_0 : Nat) (x_1 : Int32) (h : Hp) : L_Stair_findHeaps_5 d r_0 x_1 h =
    ifp (x_1 < 0)
      (some (none, h))
      (bR (hR h r_0 4) fun r1 =>
      bR (hR h r_0 2) fun r2 =>
      ifp (inb x_1 (hN h r2) = true) (
      ifp ((hI h r2 (ix x_1)) = (1 : Int32))
        (ifp (inb x_1 (hN h r1) = true) (
        L_Stair_findHeaps_5 d r_0 (x_1 + (-1 : Int32)) (sI h r1 (ix x_1) (-1 : Int32))) none)
        (bI (evm d 37 [vR 5 r_0, vI x_1] h) fun x4 h3 =>
        ifp (inb x_1 (hN h3 r1) = true) (
        L_Stair_findHeaps_5 d r_0 (x_1 + (-1 : Int32)) (sI h3 r1 (ix x_1) x4)) none)) none) := (evs_xpd _ tx_Stair_findHeaps [5] 28 _).trans rfl
set_option maxRecDepth 100000 in
theorem e_Stair_findHeaps (d : Nat) (r_0 : Nat) (h : Hp) : evm (d + 1) 36 [vR 5 r_0] h =
    L_Stair_findHeaps_5 d r_0 (hI h r_0 7) h := (evs_xpd _ tx_Stair_findHeaps [5] 28 _).trans rfl
noncomputable def L_Stair_leastHeap_4 (d : Nat) (r_0 : Nat) (x_1 : Int32) (x_2 : Int32) (x_3 : Int32) (h : Hp) : Option Rs := evs (evm d) tx_Stair_leastHeap (4, [some (vR 5 r_0), some (vI x_1), some (vI x_2), some (vI x_3), none], [], h)
noncomputable def L_Stair_leastHeap_62 (d : Nat) (x_2 : Int32) (x_3 : Int32) (h : Hp) : Option Rs := evs (evm d) tx_Stair_leastHeap (62, [none, none, some (vI x_2), some (vI x_3), none], [], h)
set_option maxRecDepth 100000 in
theorem e_Stair_leastHeap_4 (d : Nat) (r_0 : Nat) (x_1 : Int32) (x_2 : Int32) (x_3 : Int32) (h : Hp) : L_Stair_leastHeap_4 d r_0 x_1 x_2 x_3 h =
    ifp (x_3 < (hI h r_0 8))
      (bR (hR h r_0 0) fun r1 =>
      ifp (inb x_3 (hN h r1) = true) (
      ifp ((hI h r_0 7) < (x_1 + (hI h r1 (ix x_3))))
        (L_Stair_leastHeap_4 d r_0 x_1 x_2 (x_3 + (1 : Int32)) h)
        (bR (hR h r_0 2) fun r2 =>
        ifp (inb (x_1 + (hI h r1 (ix x_3))) (hN h r2) = true) (
        ifp ((hI h r2 (ix (x_1 + (hI h r1 (ix x_3))))) = (1 : Int32))
          (L_Stair_leastHeap_4 d r_0 x_1 x_2 (x_3 + (1 : Int32)) h)
          (bR (hR h r_0 4) fun r3 =>
          ifp (inb (x_1 + (hI h r1 (ix x_3))) (hN h r3) = true) (
          L_Stair_leastHeap_4 d r_0 x_1 (x_2 ||| ((1 : Int32) <<< ((hI h r3 (ix (x_1 + (hI h r1 (ix x_3))))) &&& 31))) (x_3 + (1 : Int32)) h) none)) none)) none)
      (L_Stair_leastHeap_62 d x_2 (0 : Int32) h) := (evs_xpd _ tx_Stair_leastHeap [4, 62] 56 _).trans rfl
set_option maxRecDepth 100000 in
theorem e_Stair_leastHeap_62 (d : Nat) (x_2 : Int32) (x_3 : Int32) (h : Hp) : L_Stair_leastHeap_62 d x_2 x_3 h =
    ifp ((6 : Int32) < x_3)
      (some (some (vI x_3), h))
      (ifp (((x_2 >>> (x_3 &&& 31)) &&& (1 : Int32)) = 0)
        (some (some (vI x_3), h))
        (L_Stair_leastHeap_62 d x_2 (x_3 + (1 : Int32)) h)) := (evs_xpd _ tx_Stair_leastHeap [4, 62] 56 _).trans rfl
set_option maxRecDepth 100000 in
theorem e_Stair_leastHeap (d : Nat) (r_0 : Nat) (x_1 : Int32) (h : Hp) : evm (d + 1) 37 [vR 5 r_0, vI x_1] h =
    L_Stair_leastHeap_4 d r_0 x_1 (0 : Int32) (0 : Int32) h := (evs_xpd _ tx_Stair_leastHeap [4, 62] 56 _).trans rfl
end
section
set_option maxRecDepth 100000 in
theorem e_StairReader_new (d : Nat) (r_0 : Nat) (h : Hp) : evm (d + 1) 38 [vR 6 r_0] h =
    alc h fun q1 =>
    bV (evm d 66 [vR 8 q1] (sN h 8 0 6)) fun h2 =>
    some (none, sR h2 r_0 0 q1) := (evs_xpd _ tx_StairReader_new [] 13 _).trans rfl
noncomputable def L_StairReader_read_29 (d : Nat) (r_0 : Nat) (r_1 : Nat) (x_2 : Int32) (x_3 : Int32) (h : Hp) : Option Rs := evs (evm d) tx_StairReader_read (29, [some (vR 6 r_0), some (vR 5 r_1), some (vI x_2), some (vI x_3)], [], h)
noncomputable def L_StairReader_read_62 (d : Nat) (r_0 : Nat) (r_1 : Nat) (h : Hp) : Option Rs := evs (evm d) tx_StairReader_read (62, [some (vR 6 r_0), some (vR 5 r_1), none, none], [], h)
set_option maxRecDepth 100000 in
theorem e_StairReader_read_29 (d : Nat) (r_0 : Nat) (r_1 : Nat) (x_2 : Int32) (x_3 : Int32) (h : Hp) : L_StairReader_read_29 d r_0 r_1 x_2 x_3 h =
    ifp (x_3 < (1000 : Int32))
      (ifp (x_2 = 0)
        (L_StairReader_read_62 d r_0 r_1 h)
        (bR (hR h r_0 0) fun r1 =>
        ifp ((hI h r1 2) = 0)
          (L_StairReader_read_62 d r_0 r_1 h)
          (bI (evm d 41 [vR 6 r_0, vR 5 r_1] h) fun x3 h2 =>
          L_StairReader_read_29 d r_0 r_1 x3 (x_3 + (1 : Int32)) h2)))
      (L_StairReader_read_62 d r_0 r_1 h) := (evs_xpd _ tx_StairReader_read [29, 62] 49 _).trans rfl
set_option maxRecDepth 100000 in
theorem e_StairReader_read_62 (d : Nat) (r_0 : Nat) (r_1 : Nat) (h : Hp) : L_StairReader_read_62 d r_0 r_1 h =
    bR (hR h r_0 0) fun r1 =>
    ifp ((hI (sI h r1 1 (0 : Int32)) r_0 2) = 0)
      (bV (evm d 26 [vR 5 r_1] (sI h r1 1 (0 : Int32))) fun h2 =>
      some (some (vI (hI h2 r_0 2)), h2))
      (some (some (vI (hI (sI h r1 1 (0 : Int32)) r_0 2)), sI h r1 1 (0 : Int32))) := (evs_xpd _ tx_StairReader_read [29, 62] 49 _).trans rfl
set_option maxRecDepth 100000 in
theorem e_StairReader_read (d : Nat) (r_0 : Nat) (r_1 : Nat) (h : Hp) : evm (d + 1) 39 [vR 6 r_0, vR 5 r_1] h =
    bV (evm d 25 [vR 5 r_1] (sI (sI h r_0 1 (0 : Int32)) r_0 2 (0 : Int32))) fun h1 =>
    bR (hR h1 r_0 0) fun r2 =>
    bV (evm d 68 [vR 8 r2] h1) fun h3 =>
    bI (evm d 40 [vR 6 r_0, vR 5 r_1] h3) fun x5 h4 =>
    L_StairReader_read_29 d r_0 r_1 x5 (0 : Int32) h4 := (evs_xpd _ tx_StairReader_read [29, 62] 49 _).trans rfl
set_option maxRecDepth 100000 in
theorem e_StairReader_readFirst (d : Nat) (r_0 : Nat) (r_1 : Nat) (h : Hp) : evm (d + 1) 40 [vR 6 r_0, vR 5 r_1] h =
    bI (evm d 58 [vR 6 r_0, vR 40 1] h) fun x2 h1 =>
    ifp (x2 = 0)
      (some (some (vI (0 : Int32)), h1))
      (bI (evm d 57 [vR 6 r_0, vI (1 : Int32), vI (40 : Int32)] h1) fun x4 h3 =>
      ifp (x4 = 0)
        (some (some (vI (0 : Int32)), h3))
        (bI (evm d 59 [vR 6 r_0, vI (59 : Int32)] (sI h3 r_1 7 (hI h3 r_0 3))) fun x6 h5 =>
        bif isB x6 then some (some (vI x6), h5) else none)) := (evs_xpd _ tx_StairReader_readFirst [] 24 _).trans rfl
noncomputable def L_StairReader_readLine_34 (d : Nat) (r_0 : Nat) (r_1 : Nat) (h : Hp) : Option Rs := evs (evm d) tx_StairReader_readLine (34, [some (vR 6 r_0), some (vR 5 r_1)], [], h)
noncomputable def L_StairReader_readLine_91 (d : Nat) (r_0 : Nat) (r_1 : Nat) (h : Hp) : Option Rs := evs (evm d) tx_StairReader_readLine (91, [some (vR 6 r_0), some (vR 5 r_1)], [], h)
noncomputable def L_StairReader_readLine_177 (d : Nat) (r_0 : Nat) (r_1 : Nat) (h : Hp) : Option Rs := evs (evm d) tx_StairReader_readLine (177, [some (vR 6 r_0), some (vR 5 r_1)], [], h)
noncomputable def L_StairReader_readLine_247 (d : Nat) (r_0 : Nat) (r_1 : Nat) (h : Hp) : Option Rs := evs (evm d) tx_StairReader_readLine (247, [some (vR 6 r_0), some (vR 5 r_1)], [], h)
set_option maxRecDepth 100000 in
theorem e_StairReader_readLine_34 (d : Nat) (r_0 : Nat) (r_1 : Nat) (h : Hp) : L_StairReader_readLine_34 d r_0 r_1 h =
    bR (hR h r_0 0) fun r1 =>
    bI (evm d 70 [vR 8 r1, vR 40 3] h) fun x3 h2 =>
    ifp (x3 = 0)
      (bR (hR h2 r_0 0) fun r4 =>
      bI (evm d 70 [vR 8 r4, vR 40 4] h2) fun x6 h5 =>
      ifp (x6 = 0)
        (bR (hR h5 r_0 0) fun r7 =>
        bI (evm d 70 [vR 8 r7, vR 40 5] h5) fun x9 h8 =>
        ifp (x9 = 0)
          (L_StairReader_readLine_91 d r_0 r_1 h8)
          (bI (evm d 43 [vR 6 r_0, vR 5 r_1, vI (3 : Int32)] h8) fun x11 h10 =>
          bif isB x11 then some (some (vI x11), h10) else none))
        (bI (evm d 43 [vR 6 r_0, vR 5 r_1, vI (2 : Int32)] h5) fun x13 h12 =>
        bif isB x13 then some (some (vI x13), h12) else none))
      (bI (evm d 43 [vR 6 r_0, vR 5 r_1, vI (1 : Int32)] h2) fun x15 h14 =>
      bif isB x15 then some (some (vI x15), h14) else none) := (evs_xpd _ tx_StairReader_readLine [34, 91, 177, 247] 156 _).trans rfl
set_option maxRecDepth 100000 in
theorem e_StairReader_readLine_91 (d : Nat) (r_0 : Nat) (r_1 : Nat) (h : Hp) : L_StairReader_readLine_91 d r_0 r_1 h =
    bR (hR h r_0 0) fun r1 =>
    bI (evm d 70 [vR 8 r1, vR 40 6] h) fun x3 h2 =>
    ifp (x3 = 0)
      (bR (hR h2 r_0 0) fun r4 =>
      bI (evm d 70 [vR 8 r4, vR 40 7] h2) fun x6 h5 =>
      ifp (x6 = 0)
        (bR (hR h5 r_0 0) fun r7 =>
        bI (evm d 70 [vR 8 r7, vR 40 8] h5) fun x9 h8 =>
        ifp (x9 = 0)
          (L_StairReader_readLine_177 d r_0 r_1 h8)
          (bI (evm d 55 [vR 6 r_0, vI (4 : Int32)] h8) fun x11 h10 =>
          ifp (x11 = 0)
            (some (some (vI (0 : Int32)), h10))
            (bI (evm d 46 [vR 6 r_0, vR 5 r_1] h10) fun x13 h12 =>
            ifp (x13 = 0)
              (some (some (vI (0 : Int32)), h12))
              (some (some (vI (1 : Int32)), h12)))))
        (bI (evm d 45 [vR 6 r_0, vR 5 r_1] h5) fun x15 h14 =>
        bif isB x15 then some (some (vI x15), h14) else none))
      (bI (evm d 55 [vR 6 r_0, vI (2 : Int32)] h2) fun x17 h16 =>
      ifp (x17 = 0)
        (some (some (vI (0 : Int32)), h16))
        (bI (evm d 44 [vR 6 r_0, vR 5 r_1] h16) fun x19 h18 =>
        ifp (x19 = 0)
          (some (some (vI (0 : Int32)), h18))
          (some (some (vI (1 : Int32)), h18)))) := (evs_xpd _ tx_StairReader_readLine [34, 91, 177, 247] 156 _).trans rfl
set_option maxRecDepth 100000 in
theorem e_StairReader_readLine_177 (d : Nat) (r_0 : Nat) (r_1 : Nat) (h : Hp) : L_StairReader_readLine_177 d r_0 r_1 h =
    bR (hR h r_0 0) fun r1 =>
    bI (evm d 70 [vR 8 r1, vR 40 11] h) fun x3 h2 =>
    ifp (x3 = 0)
      (bR (hR h2 r_0 0) fun r4 =>
      bI (evm d 70 [vR 8 r4, vR 40 13] h2) fun x6 h5 =>
      ifp (x6 = 0)
        (L_StairReader_readLine_247 d r_0 r_1 h5)
        (bI (evm d 55 [vR 6 r_0, vI (16 : Int32)] h5) fun x8 h7 =>
        ifp (x8 = 0)
          (some (some (vI (0 : Int32)), h7))
          (bI (evm d 48 [vR 6 r_0, vR 5 r_1] h7) fun x10 h9 =>
          ifp (x10 = 0)
            (some (some (vI (0 : Int32)), h9))
            (some (some (vI (1 : Int32)), h9)))))
      (bI (evm d 55 [vR 6 r_0, vI (8 : Int32)] h2) fun x12 h11 =>
      ifp (x12 = 0)
        (some (some (vI (0 : Int32)), h11))
        (bI (evm d 47 [vR 6 r_0, vR 5 r_1] h11) fun x14 h13 =>
        ifp (x14 = 0)
          (some (some (vI (0 : Int32)), h13))
          (some (some (vI (1 : Int32)), h13)))) := (evs_xpd _ tx_StairReader_readLine [34, 91, 177, 247] 156 _).trans rfl
set_option maxRecDepth 100000 in
theorem e_StairReader_readLine_247 (d : Nat) (r_0 : Nat) (r_1 : Nat) (h : Hp) : L_StairReader_readLine_247 d r_0 r_1 h =
    bR (hR h r_0 0) fun r1 =>
    bI (evm d 70 [vR 8 r1, vR 40 15] h) fun x3 h2 =>
    ifp (x3 = 0)
      (bI (evm d 60 [vR 6 r_0, vI (1 : Int32)] h2) fun x5 h4 =>
      bif isB x5 then some (some (vI x5), h4) else none)
      (bI (evm d 55 [vR 6 r_0, vI (32 : Int32)] h2) fun x7 h6 =>
      ifp (x7 = 0)
        (some (some (vI (0 : Int32)), h6))
        (bR (hR h6 r_1 6) fun r8 =>
        bI (evm d 49 [vR 6 r_0, vR 2 r8, vI (0 : Int32)] h6) fun x10 h9 =>
        ifp (x10 = 0)
          (some (some (vI (0 : Int32)), h9))
          (bI (evm d 59 [vR 6 r_0, vI (59 : Int32)] h9) fun x12 h11 =>
          ifp (x12 = 0)
            (some (some (vI (0 : Int32)), h11))
            (some (some (vI (1 : Int32)), h11))))) := (evs_xpd _ tx_StairReader_readLine [34, 91, 177, 247] 156 _).trans rfl
set_option maxRecDepth 100000 in
theorem e_StairReader_readLine (d : Nat) (r_0 : Nat) (r_1 : Nat) (h : Hp) : evm (d + 1) 41 [vR 6 r_0, vR 5 r_1] h =
    bR (hR h r_0 0) fun r1 =>
    bI (evm d 70 [vR 8 r1, vR 40 2] h) fun x3 h2 =>
    ifp (x3 = 0)
      (L_StairReader_readLine_34 d r_0 r_1 h2)
      (bI (evm d 55 [vR 6 r_0, vI (1 : Int32)] h2) fun x5 h4 =>
      ifp (x5 = 0)
        (some (some (vI (0 : Int32)), h4))
        (bI (evm d 42 [vR 6 r_0, vR 5 r_1] h4) fun x7 h6 =>
        ifp (x7 = 0)
          (some (some (vI (0 : Int32)), h6))
          (some (some (vI (1 : Int32)), h6)))) := (evs_xpd _ tx_StairReader_readLine [34, 91, 177, 247] 156 _).trans rfl
noncomputable def L_StairReader_readStrides_2 (d : Nat) (r_0 : Nat) (r_1 : Nat) (x_2 : Int32) (h : Hp) : Option Rs := evs (evm d) tx_StairReader_readStrides (2, [some (vR 6 r_0), some (vR 5 r_1), some (vI x_2)], [], h)
noncomputable def L_StairReader_readStrides_27 (d : Nat) (r_0 : Nat) (r_1 : Nat) (x_2 : Int32) (h : Hp) : Option Rs := evs (evm d) tx_StairReader_readStrides (27, [some (vR 6 r_0), some (vR 5 r_1), some (vI x_2)], [], h)
noncomputable def L_StairReader_readStrides_58 (d : Nat) (r_0 : Nat) (r_1 : Nat) (x_2 : Int32) (h : Hp) : Option Rs := evs (evm d) tx_StairReader_readStrides (58, [some (vR 6 r_0), some (vR 5 r_1), some (vI x_2)], [], h)
set_option maxRecDepth 100000 in
theorem e_StairReader_readStrides_2 (d : Nat) (r_0 : Nat) (r_1 : Nat) (x_2 : Int32) (h : Hp) : L_StairReader_readStrides_2 d r_0 r_1 x_2 h =
    ifp ((6 : Int32) < x_2)
      (bI (evm d 59 [vR 6 r_0, vI (59 : Int32)] h) fun x2 h1 =>
      bif isB x2 then some (some (vI x2), h1) else none)
      (ifp (0 < x_2)
        (bR (hR h r_0 0) fun r3 =>
        ifp ((hI h r3 2) = (59 : Int32))
          (bI (evm d 59 [vR 6 r_0, vI (59 : Int32)] h) fun x5 h4 =>
          bif isB x5 then some (some (vI x5), h4) else none)
          (L_StairReader_readStrides_27 d r_0 r_1 x_2 h))
        (L_StairReader_readStrides_27 d r_0 r_1 x_2 h)) := (evs_xpd _ tx_StairReader_readStrides [2, 27, 58] 61 _).trans rfl
set_option maxRecDepth 100000 in
theorem e_StairReader_readStrides_27 (d : Nat) (r_0 : Nat) (r_1 : Nat) (x_2 : Int32) (h : Hp) : L_StairReader_readStrides_27 d r_0 r_1 x_2 h =
    bR (hR h r_0 0) fun r1 =>
    ifp ((hI h r1 2) = (3 : Int32))
      (bR (hR h r_0 0) fun r2 =>
      bI (evm d 28 [vR 5 r_1, vI (hI h r2 5)] h) fun x4 h3 =>
      ifp (x4 = 0)
        (L_StairReader_readStrides_58 d r_0 r_1 x_2 h3)
        (bI (evm d 60 [vR 6 r_0, vI (3 : Int32)] h3) fun x6 h5 =>
        bif isB x6 then some (some (vI x6), h5) else none))
      (L_StairReader_readStrides_58 d r_0 r_1 x_2 h) := (evs_xpd _ tx_StairReader_readStrides [2, 27, 58] 61 _).trans rfl
set_option maxRecDepth 100000 in
theorem e_StairReader_readStrides_58 (d : Nat) (r_0 : Nat) (r_1 : Nat) (x_2 : Int32) (h : Hp) : L_StairReader_readStrides_58 d r_0 r_1 x_2 h =
    bI (evm d 56 [vR 6 r_0, vI (1 : Int32), vI (12 : Int32)] h) fun x2 h1 =>
    ifp (x2 = 0)
      (some (some (vI (0 : Int32)), h1))
      (ifp (x_2 = (6 : Int32))
        (bI (evm d 60 [vR 6 r_0, vI (5 : Int32)] h1) fun x8 h7 =>
        bif isB x8 then some (some (vI x8), h7) else none)
        (bR (hR h1 r_0 0) fun r3 =>
        bV (evm d 27 [vR 5 r_1, vI (hI h1 r3 5)] h1) fun h4 =>
        bR (hR h4 r_0 0) fun r5 =>
        bV (evm d 69 [vR 8 r5] h4) fun h6 =>
        L_StairReader_readStrides_2 d r_0 r_1 (x_2 + (1 : Int32)) h6)) := (evs_xpd _ tx_StairReader_readStrides [2, 27, 58] 61 _).trans rfl
set_option maxRecDepth 100000 in
theorem e_StairReader_readStrides (d : Nat) (r_0 : Nat) (r_1 : Nat) (h : Hp) : evm (d + 1) 42 [vR 6 r_0, vR 5 r_1] h =
    L_StairReader_readStrides_2 d r_0 r_1 (0 : Int32) h := (evs_xpd _ tx_StairReader_readStrides [2, 27, 58] 61 _).trans rfl
set_option maxRecDepth 100000 in
theorem e_StairReader_readStep (d : Nat) (r_0 : Nat) (r_1 : Nat) (x_2 : Int32) (h : Hp) : evm (d + 1) 43 [vR 6 r_0, vR 5 r_1, vI x_2] h =
    bR (hR h r_0 0) fun r1 =>
    bV (evm d 69 [vR 8 r1] h) fun h2 =>
    bI (evm d 56 [vR 6 r_0, vI (1 : Int32), vI ((hI h2 r_1 7) - (1 : Int32))] h2) fun x4 h3 =>
    ifp (x4 = 0)
      (some (some (vI (0 : Int32)), h3))
      (bR (hR h3 r_0 0) fun r5 =>
      bR (hR h3 r_1 2) fun r6 =>
      ifp (inb (hI h3 r5 5) (hN h3 r6) = true) (
      ifp ((hI h3 r6 (ix (hI h3 r5 5))) = 0)
        (bR (hR h3 r_1 2) fun r7 =>
        ifp (inb (hI h3 r5 5) (hN h3 r7) = true) (
        bR (hR (sI h3 r7 (ix (hI h3 r5 5)) x_2) r_0 0) fun r8 =>
        bV (evm d 69 [vR 8 r8] (sI h3 r7 (ix (hI h3 r5 5)) x_2)) fun h9 =>
        bI (evm d 59 [vR 6 r_0, vI (59 : Int32)] h9) fun x11 h10 =>
        bif isB x11 then some (some (vI x11), h10) else none) none)
        (bI (evm d 60 [vR 6 r_0, vI (3 : Int32)] h3) fun x13 h12 =>
        bif isB x13 then some (some (vI x13), h12) else none)) none) := (evs_xpd _ tx_StairReader_readStep [] 43 _).trans rfl
set_option maxRecDepth 100000 in
theorem e_StairReader_readCreaks (d : Nat) (r_0 : Nat) (r_1 : Nat) (h : Hp) : evm (d + 1) 44 [vR 6 r_0, vR 5 r_1] h =
    bI (evm d 57 [vR 6 r_0, vI (0 : Int32), vI (4 : Int32)] h) fun x2 h1 =>
    ifp (x2 = 0)
      (some (some (vI (0 : Int32)), h1))
      (bI (evm d 59 [vR 6 r_0, vI (59 : Int32)] (sI h1 r_1 10 (hI h1 r_0 3))) fun x4 h3 =>
      bif isB x4 then some (some (vI x4), h3) else none) := (evs_xpd _ tx_StairReader_readCreaks [] 20 _).trans rfl
noncomputable def L_StairReader_readBar_34 (d : Nat) (r_0 : Nat) (r_1 : Nat) (h : Hp) : Option Rs := evs (evm d) tx_StairReader_readBar (34, [some (vR 6 r_0), some (vR 5 r_1), none], [], h)
set_option maxRecDepth 100000 in
theorem e_StairReader_readBar_34 (d : Nat) (r_0 : Nat) (r_1 : Nat) (h : Hp) : L_StairReader_readBar_34 d r_0 r_1 h =
    bI (evm d 56 [vR 6 r_0, vI (1 : Int32), vI (12 : Int32)] h) fun x2 h1 =>
    ifp (x2 = 0)
      (some (some (vI (0 : Int32)), h1))
      (bR (hR h1 r_0 0) fun r3 =>
      bI (evm d 29 [vR 5 r_1, vI (hI h r_0 3), vI (hI h1 r3 5)] h1) fun x5 h4 =>
      ifp (x5 = 0)
        (bR (hR h4 r_1 3) fun r6 =>
        ifp (inb (hI h r_0 3) (hN h4 r6) = true) (
        bR (hR h4 r_0 0) fun r7 =>
        ifp (inb (hI h r_0 3) (hN h4 r6) = true) (
        bR (hR (sI (sI h4 r6 (ix (hI h r_0 3)) ((hI h4 r6 (ix (hI h r_0 3))) ||| ((1 : Int32) <<< ((hI h4 r7 5) &&& 31)))) r_1 11 ((hI (sI h4 r6 (ix (hI h r_0 3)) ((hI h4 r6 (ix (hI h r_0 3))) ||| ((1 : Int32) <<< ((hI h4 r7 5) &&& 31)))) r_1 11) + (1 : Int32))) r_0 0) fun r8 =>
        bV (evm d 69 [vR 8 r8] (sI (sI h4 r6 (ix (hI h r_0 3)) ((hI h4 r6 (ix (hI h r_0 3))) ||| ((1 : Int32) <<< ((hI h4 r7 5) &&& 31)))) r_1 11 ((hI (sI h4 r6 (ix (hI h r_0 3)) ((hI h4 r6 (ix (hI h r_0 3))) ||| ((1 : Int32) <<< ((hI h4 r7 5) &&& 31)))) r_1 11) + (1 : Int32)))) fun h9 =>
        bI (evm d 59 [vR 6 r_0, vI (59 : Int32)] h9) fun x11 h10 =>
        bif isB x11 then some (some (vI x11), h10) else none) none) none)
        (bI (evm d 60 [vR 6 r_0, vI (3 : Int32)] h4) fun x13 h12 =>
        bif isB x13 then some (some (vI x13), h12) else none)) := (evs_xpd _ tx_StairReader_readBar [34] 69 _).trans rfl
set_option maxRecDepth 100000 in
theorem e_StairReader_readBar (d : Nat) (r_0 : Nat) (r_1 : Nat) (h : Hp) : evm (d + 1) 45 [vR 6 r_0, vR 5 r_1] h =
    ifp ((hI h r_1 11) < (8 : Int32))
      (bR (hR h r_0 0) fun r1 =>
      bV (evm d 69 [vR 8 r1] h) fun h2 =>
      bI (evm d 57 [vR 6 r_0, vI (1 : Int32), vI (12 : Int32)] h2) fun x4 h3 =>
      ifp (x4 = 0)
        (some (some (vI (0 : Int32)), h3))
        (L_StairReader_readBar_34 d r_0 r_1 h3))
      (bI (evm d 60 [vR 6 r_0, vI (5 : Int32)] h) fun x6 h5 =>
      bif isB x6 then some (some (vI x6), h5) else none) := (evs_xpd _ tx_StairReader_readBar [34] 69 _).trans rfl
set_option maxRecDepth 100000 in
theorem e_StairReader_readFoot (d : Nat) (r_0 : Nat) (r_1 : Nat) (h : Hp) : evm (d + 1) 46 [vR 6 r_0, vR 5 r_1] h =
    bR (hR h r_0 0) fun r1 =>
    bI (evm d 70 [vR 8 r1, vR 40 9] h) fun x3 h2 =>
    ifp (x3 = 0)
      (bR (hR h2 r_0 0) fun r4 =>
      bI (evm d 70 [vR 8 r4, vR 40 10] h2) fun x6 h5 =>
      ifp (x6 = 0)
        (bI (evm d 60 [vR 6 r_0, vI (1 : Int32)] h5) fun x8 h7 =>
        bif isB x8 then some (some (vI x8), h7) else none)
        (bR (hR (sI h5 r_1 12 (0 : Int32)) r_0 0) fun r9 =>
        bV (evm d 69 [vR 8 r9] (sI h5 r_1 12 (0 : Int32))) fun h10 =>
        bI (evm d 59 [vR 6 r_0, vI (59 : Int32)] h10) fun x12 h11 =>
        bif isB x12 then some (some (vI x12), h11) else none))
      (bR (hR (sI h2 r_1 12 (1 : Int32)) r_0 0) fun r13 =>
      bV (evm d 69 [vR 8 r13] (sI h2 r_1 12 (1 : Int32))) fun h14 =>
      bI (evm d 59 [vR 6 r_0, vI (59 : Int32)] h14) fun x16 h15 =>
      bif isB x16 then some (some (vI x16), h15) else none) := (evs_xpd _ tx_StairReader_readFoot [] 34 _).trans rfl
set_option maxRecDepth 100000 in
theorem e_StairReader_readCount (d : Nat) (r_0 : Nat) (r_1 : Nat) (h : Hp) : evm (d + 1) 47 [vR 6 r_0, vR 5 r_1] h =
    bI (evm d 57 [vR 6 r_0, vI (0 : Int32), vI (40 : Int32)] h) fun x2 h1 =>
    ifp (x2 = 0)
      (some (some (vI (0 : Int32)), h1))
      (bI (evm d 58 [vR 6 r_0, vR 40 12] (sI h1 r_1 13 (hI h1 r_0 3))) fun x4 h3 =>
      ifp (x4 = 0)
        (some (some (vI (0 : Int32)), h3))
        (bI (evm d 57 [vR 6 r_0, vI (hI h3 r_1 13), vI (40 : Int32)] h3) fun x6 h5 =>
        ifp (x6 = 0)
          (some (some (vI (0 : Int32)), h5))
          (bI (evm d 59 [vR 6 r_0, vI (59 : Int32)] (sI h5 r_1 14 (hI h5 r_0 3))) fun x8 h7 =>
          bif isB x8 then some (some (vI x8), h7) else none))) := (evs_xpd _ tx_StairReader_readCount [] 36 _).trans rfl
set_option maxRecDepth 100000 in
theorem e_StairReader_readGreat (d : Nat) (r_0 : Nat) (r_1 : Nat) (h : Hp) : evm (d + 1) 48 [vR 6 r_0, vR 5 r_1] h =
    bI (evm d 57 [vR 6 r_0, vI (1 : Int32), vI (12 : Int32)] h) fun x2 h1 =>
    ifp (x2 = 0)
      (some (some (vI (0 : Int32)), h1))
      (bI (evm d 58 [vR 6 r_0, vR 40 14] (sI h1 r_1 15 (hI h1 r_0 3))) fun x4 h3 =>
      ifp (x4 = 0)
        (some (some (vI (0 : Int32)), h3))
        (bI (evm d 57 [vR 6 r_0, vI (0 : Int32), vI (4 : Int32)] h3) fun x6 h5 =>
        ifp (x6 = 0)
          (some (some (vI (0 : Int32)), h5))
          (bI (evm d 59 [vR 6 r_0, vI (59 : Int32)] (sI h5 r_1 16 (hI h5 r_0 3))) fun x8 h7 =>
          bif isB x8 then some (some (vI x8), h7) else none))) := (evs_xpd _ tx_StairReader_readGreat [] 35 _).trans rfl
noncomputable def L_StairReader_readEither_13 (d : Nat) (r_0 : Nat) (r_1 : Nat) (x_2 : Int32) (x_3 : Int32) (h : Hp) : Option Rs := evs (evm d) tx_StairReader_readEither (13, [some (vR 6 r_0), some (vR 2 r_1), some (vI x_2), some (vI x_3), none], [], h)
noncomputable def L_StairReader_readEither_44 (d : Nat) (r_0 : Nat) (r_1 : Nat) (x_2 : Int32) (x_3 : Int32) (h : Hp) : Option Rs := evs (evm d) tx_StairReader_readEither (44, [some (vR 6 r_0), some (vR 2 r_1), some (vI x_2), some (vI x_3), none], [], h)
noncomputable def L_StairReader_readEither_63 (d : Nat) (r_0 : Nat) (r_1 : Nat) (x_2 : Int32) (x_3 : Int32) (xs0 : Int32) (h : Hp) : Option Rs := evs (evm d) tx_StairReader_readEither (63, [some (vR 6 r_0), some (vR 2 r_1), some (vI x_2), some (vI x_3), none], [vI xs0], h)
set_option maxRecDepth 100000 in
theorem e_StairReader_readEither_13 (d : Nat) (r_0 : Nat) (r_1 : Nat) (x_2 : Int32) (x_3 : Int32) (h : Hp) : L_StairReader_readEither_13 d r_0 r_1 x_2 x_3 h =
    ifp (x_3 < (1000 : Int32))
      (bR (hR h r_0 0) fun r1 =>
      bI (evm d 70 [vR 8 r1, vR 40 21] h) fun x3 h2 =>
      ifp (x3 = 0)
        (bR (hR h2 r_0 0) fun r4 =>
        bI (evm d 70 [vR 8 r4, vR 40 22] h2) fun x6 h5 =>
        ifp (x6 = 0)
          (some (some (vI (1 : Int32)), h5))
          (L_StairReader_readEither_44 d r_0 r_1 x_2 x_3 h5))
        (L_StairReader_readEither_44 d r_0 r_1 x_2 x_3 h2))
      (some (some (vI (1 : Int32)), h)) := (evs_xpd _ tx_StairReader_readEither [13, 44, 63] 53 _).trans rfl
set_option maxRecDepth 100000 in
theorem e_StairReader_readEither_44 (d : Nat) (r_0 : Nat) (r_1 : Nat) (x_2 : Int32) (x_3 : Int32) (h : Hp) : L_StairReader_readEither_44 d r_0 r_1 x_2 x_3 h =
    bR (hR h r_0 0) fun r1 =>
    bI (evm d 70 [vR 8 r1, vR 40 21] h) fun x3 h2 =>
    ifp (x3 = 0)
      (L_StairReader_readEither_63 d r_0 r_1 x_2 x_3 (-12 : Int32) h2)
      (L_StairReader_readEither_63 d r_0 r_1 x_2 x_3 (-11 : Int32) h2) := (evs_xpd _ tx_StairReader_readEither [13, 44, 63] 53 _).trans rfl
set_option maxRecDepth 100000 in
theorem e_StairReader_readEither_63 (d : Nat) (r_0 : Nat) (r_1 : Nat) (x_2 : Int32) (x_3 : Int32) (xs0 : Int32) (h : Hp) : L_StairReader_readEither_63 d r_0 r_1 x_2 x_3 xs0 h =
    bR (hR h r_0 0) fun r1 =>
    bV (evm d 69 [vR 8 r1] h) fun h2 =>
    bI (evm d 50 [vR 6 r_0, vR 2 r_1, vI x_2] h2) fun x4 h3 =>
    ifp (x4 = 0)
      (some (some (vI (0 : Int32)), h3))
      (bV (evm d 12 [vR 2 r_1, vI xs0] h3) fun h5 =>
      L_StairReader_readEither_13 d r_0 r_1 x_2 (x_3 + (1 : Int32)) h5) := (evs_xpd _ tx_StairReader_readEither [13, 44, 63] 53 _).trans rfl
set_option maxRecDepth 100000 in
theorem e_StairReader_readEither (d : Nat) (r_0 : Nat) (r_1 : Nat) (x_2 : Int32) (h : Hp) : evm (d + 1) 49 [vR 6 r_0, vR 2 r_1, vI x_2] h =
    bI (evm d 50 [vR 6 r_0, vR 2 r_1, vI x_2] h) fun x2 h1 =>
    ifp (x2 = 0)
      (some (some (vI (0 : Int32)), h1))
      (L_StairReader_readEither_13 d r_0 r_1 x_2 (0 : Int32) h1) := (evs_xpd _ tx_StairReader_readEither [13, 44, 63] 53 _).trans rfl
noncomputable def L_StairReader_readTest_37 (d : Nat) (r_0 : Nat) (r_1 : Nat) (x_2 : Int32) (h : Hp) : Option Rs := evs (evm d) tx_StairReader_readTest (37, [some (vR 6 r_0), some (vR 2 r_1), some (vI x_2), none], [], h)
noncomputable def L_StairReader_readTest_56 (d : Nat) (r_0 : Nat) (r_1 : Nat) (x_2 : Int32) (xs0 : Int32) (h : Hp) : Option Rs := evs (evm d) tx_StairReader_readTest (56, [some (vR 6 r_0), some (vR 2 r_1), some (vI x_2), none], [vI xs0], h)
set_option maxRecDepth 100000 in
theorem e_StairReader_readTest_37 (d : Nat) (r_0 : Nat) (r_1 : Nat) (x_2 : Int32) (h : Hp) : L_StairReader_readTest_37 d r_0 r_1 x_2 h =
    bR (hR h r_0 0) fun r1 =>
    ifp ((hI h r1 2) = (60 : Int32))
      (L_StairReader_readTest_56 d r_0 r_1 x_2 (-9 : Int32) h)
      (L_StairReader_readTest_56 d r_0 r_1 x_2 (-10 : Int32) h) := (evs_xpd _ tx_StairReader_readTest [37, 56] 48 _).trans rfl
set_option maxRecDepth 100000 in
theorem e_StairReader_readTest_56 (d : Nat) (r_0 : Nat) (r_1 : Nat) (x_2 : Int32) (xs0 : Int32) (h : Hp) : L_StairReader_readTest_56 d r_0 r_1 x_2 xs0 h =
    bR (hR h r_0 0) fun r1 =>
    bV (evm d 69 [vR 8 r1] h) fun h2 =>
    bI (evm d 51 [vR 6 r_0, vR 2 r_1, vI x_2] h2) fun x4 h3 =>
    ifp (x4 = 0)
      (some (some (vI (0 : Int32)), h3))
      (bV (evm d 12 [vR 2 r_1, vI xs0] h3) fun h5 =>
      some (some (vI (1 : Int32)), h5)) := (evs_xpd _ tx_StairReader_readTest [37, 56] 48 _).trans rfl
set_option maxRecDepth 100000 in
theorem e_StairReader_readTest (d : Nat) (r_0 : Nat) (r_1 : Nat) (x_2 : Int32) (h : Hp) : evm (d + 1) 50 [vR 6 r_0, vR 2 r_1, vI x_2] h =
    bI (evm d 51 [vR 6 r_0, vR 2 r_1, vI x_2] h) fun x2 h1 =>
    ifp (x2 = 0)
      (some (some (vI (0 : Int32)), h1))
      (bR (hR h1 r_0 0) fun r3 =>
      ifp ((hI h1 r3 2) = (60 : Int32))
        (L_StairReader_readTest_37 d r_0 r_1 x_2 h1)
        (bR (hR h1 r_0 0) fun r4 =>
        ifp ((hI h1 r4 2) = (61 : Int32))
          (L_StairReader_readTest_37 d r_0 r_1 x_2 h1)
          (some (some (vI (1 : Int32)), h1)))) := (evs_xpd _ tx_StairReader_readTest [37, 56] 48 _).trans rfl
noncomputable def L_StairReader_readSum_13 (d : Nat) (r_0 : Nat) (r_1 : Nat) (x_2 : Int32) (x_3 : Int32) (h : Hp) : Option Rs := evs (evm d) tx_StairReader_readSum (13, [some (vR 6 r_0), some (vR 2 r_1), some (vI x_2), some (vI x_3), none], [], h)
noncomputable def L_StairReader_readSum_44 (d : Nat) (r_0 : Nat) (r_1 : Nat) (x_2 : Int32) (x_3 : Int32) (h : Hp) : Option Rs := evs (evm d) tx_StairReader_readSum (44, [some (vR 6 r_0), some (vR 2 r_1), some (vI x_2), some (vI x_3), none], [], h)
noncomputable def L_StairReader_readSum_63 (d : Nat) (r_0 : Nat) (r_1 : Nat) (x_2 : Int32) (x_3 : Int32) (xs0 : Int32) (h : Hp) : Option Rs := evs (evm d) tx_StairReader_readSum (63, [some (vR 6 r_0), some (vR 2 r_1), some (vI x_2), some (vI x_3), none], [vI xs0], h)
set_option maxRecDepth 100000 in
theorem e_StairReader_readSum_13 (d : Nat) (r_0 : Nat) (r_1 : Nat) (x_2 : Int32) (x_3 : Int32) (h : Hp) : L_StairReader_readSum_13 d r_0 r_1 x_2 x_3 h =
    ifp (x_3 < (1000 : Int32))
      (bR (hR h r_0 0) fun r1 =>
      ifp ((hI h r1 2) = (43 : Int32))
        (L_StairReader_readSum_44 d r_0 r_1 x_2 x_3 h)
        (bR (hR h r_0 0) fun r2 =>
        ifp ((hI h r2 2) = (45 : Int32))
          (L_StairReader_readSum_44 d r_0 r_1 x_2 x_3 h)
          (some (some (vI (1 : Int32)), h))))
      (some (some (vI (1 : Int32)), h)) := (evs_xpd _ tx_StairReader_readSum [13, 44, 63] 53 _).trans rfl
set_option maxRecDepth 100000 in
theorem e_StairReader_readSum_44 (d : Nat) (r_0 : Nat) (r_1 : Nat) (x_2 : Int32) (x_3 : Int32) (h : Hp) : L_StairReader_readSum_44 d r_0 r_1 x_2 x_3 h =
    bR (hR h r_0 0) fun r1 =>
    ifp ((hI h r1 2) = (43 : Int32))
      (L_StairReader_readSum_63 d r_0 r_1 x_2 x_3 (-6 : Int32) h)
      (L_StairReader_readSum_63 d r_0 r_1 x_2 x_3 (-7 : Int32) h) := (evs_xpd _ tx_StairReader_readSum [13, 44, 63] 53 _).trans rfl
set_option maxRecDepth 100000 in
theorem e_StairReader_readSum_63 (d : Nat) (r_0 : Nat) (r_1 : Nat) (x_2 : Int32) (x_3 : Int32) (xs0 : Int32) (h : Hp) : L_StairReader_readSum_63 d r_0 r_1 x_2 x_3 xs0 h =
    bR (hR h r_0 0) fun r1 =>
    bV (evm d 69 [vR 8 r1] h) fun h2 =>
    bI (evm d 52 [vR 6 r_0, vR 2 r_1, vI x_2] h2) fun x4 h3 =>
    ifp (x4 = 0)
      (some (some (vI (0 : Int32)), h3))
      (bV (evm d 12 [vR 2 r_1, vI xs0] h3) fun h5 =>
      L_StairReader_readSum_13 d r_0 r_1 x_2 (x_3 + (1 : Int32)) h5) := (evs_xpd _ tx_StairReader_readSum [13, 44, 63] 53 _).trans rfl
set_option maxRecDepth 100000 in
theorem e_StairReader_readSum (d : Nat) (r_0 : Nat) (r_1 : Nat) (x_2 : Int32) (h : Hp) : evm (d + 1) 51 [vR 6 r_0, vR 2 r_1, vI x_2] h =
    bI (evm d 52 [vR 6 r_0, vR 2 r_1, vI x_2] h) fun x2 h1 =>
    ifp (x2 = 0)
      (some (some (vI (0 : Int32)), h1))
      (L_StairReader_readSum_13 d r_0 r_1 x_2 (0 : Int32) h1) := (evs_xpd _ tx_StairReader_readSum [13, 44, 63] 53 _).trans rfl
noncomputable def L_StairReader_readProduct_13 (d : Nat) (r_0 : Nat) (r_1 : Nat) (x_2 : Int32) (x_3 : Int32) (h : Hp) : Option Rs := evs (evm d) tx_StairReader_readProduct (13, [some (vR 6 r_0), some (vR 2 r_1), some (vI x_2), some (vI x_3)], [], h)
set_option maxRecDepth 100000 in
theorem e_StairReader_readProduct_13 (d : Nat) (r_0 : Nat) (r_1 : Nat) (x_2 : Int32) (x_3 : Int32) (h : Hp) : L_StairReader_readProduct_13 d r_0 r_1 x_2 x_3 h =
    ifp (x_3 < (1000 : Int32))
      (bR (hR h r_0 0) fun r1 =>
      ifp ((hI h r1 2) = (42 : Int32))
        (bR (hR h r_0 0) fun r2 =>
        bV (evm d 69 [vR 8 r2] h) fun h3 =>
        bI (evm d 53 [vR 6 r_0, vR 2 r_1, vI x_2] h3) fun x5 h4 =>
        ifp (x5 = 0)
          (some (some (vI (0 : Int32)), h4))
          (bV (evm d 12 [vR 2 r_1, vI (-8 : Int32)] h4) fun h6 =>
          L_StairReader_readProduct_13 d r_0 r_1 x_2 (x_3 + (1 : Int32)) h6))
        (some (some (vI (1 : Int32)), h)))
      (some (some (vI (1 : Int32)), h)) := (evs_xpd _ tx_StairReader_readProduct [13] 39 _).trans rfl
set_option maxRecDepth 100000 in
theorem e_StairReader_readProduct (d : Nat) (r_0 : Nat) (r_1 : Nat) (x_2 : Int32) (h : Hp) : evm (d + 1) 52 [vR 6 r_0, vR 2 r_1, vI x_2] h =
    bI (evm d 53 [vR 6 r_0, vR 2 r_1, vI x_2] h) fun x2 h1 =>
    ifp (x2 = 0)
      (some (some (vI (0 : Int32)), h1))
      (L_StairReader_readProduct_13 d r_0 r_1 x_2 (0 : Int32) h1) := (evs_xpd _ tx_StairReader_readProduct [13] 39 _).trans rfl
noncomputable def L_StairReader_readPart_27 (d : Nat) (r_0 : Nat) (r_1 : Nat) (x_2 : Int32) (x_3 : Int32) (xs0 : Int32) (h : Hp) : Option Rs := evs (evm d) tx_StairReader_readPart (27, [some (vR 6 r_0), some (vR 2 r_1), some (vI x_2), some (vI x_3), none, none], [vI xs0], h)
noncomputable def L_StairReader_readPart_54 (d : Nat) (r_0 : Nat) (r_1 : Nat) (x_2 : Int32) (x_3 : Int32) (x_4 : Int32) (xs0 : Int32) (h : Hp) : Option Rs := evs (evm d) tx_StairReader_readPart (54, [some (vR 6 r_0), some (vR 2 r_1), some (vI x_2), some (vI x_3), some (vI x_4), none], [vI xs0], h)
noncomputable def L_StairReader_readPart_78 (d : Nat) (r_0 : Nat) (r_1 : Nat) (x_2 : Int32) (x_3 : Int32) (x_4 : Int32) (x_5 : Int32) (h : Hp) : Option Rs := evs (evm d) tx_StairReader_readPart (78, [some (vR 6 r_0), some (vR 2 r_1), some (vI x_2), some (vI x_3), some (vI x_4), some (vI x_5)], [], h)
noncomputable def L_StairReader_readPart_144 (d : Nat) (r_1 : Nat) (x_3 : Int32) (x_5 : Int32) (h : Hp) : Option Rs := evs (evm d) tx_StairReader_readPart (144, [none, some (vR 2 r_1), none, some (vI x_3), none, some (vI x_5)], [], h)
set_option maxRecDepth 100000 in
theorem e_StairReader_readPart_27 (d : Nat) (r_0 : Nat) (r_1 : Nat) (x_2 : Int32) (x_3 : Int32) (xs0 : Int32) (h : Hp) : L_StairReader_readPart_27 d r_0 r_1 x_2 x_3 xs0 h =
    bR (hR h r_0 0) fun r1 =>
    ifp ((hI h r1 2) = (3 : Int32))
      (bR (hR h r_0 0) fun r4 =>
      L_StairReader_readPart_54 d r_0 r_1 x_2 x_3 xs0 (hI h r4 5) h)
      (bI (evm d 54 [vR 6 r_0] h) fun x3 h2 =>
      L_StairReader_readPart_54 d r_0 r_1 x_2 x_3 xs0 x3 h2) := (evs_xpd _ tx_StairReader_readPart [27, 54, 78, 144] 89 _).trans rfl
set_option maxRecDepth 100000 in
theorem e_StairReader_readPart_54 (d : Nat) (r_0 : Nat) (r_1 : Nat) (x_2 : Int32) (x_3 : Int32) (x_4 : Int32) (xs0 : Int32) (h : Hp) : L_StairReader_readPart_54 d r_0 r_1 x_2 x_3 x_4 xs0 h =
    ifp (x_3 = 0)
      (ifp (x_4 = 0)
        (ifp (xs0 = (-5 : Int32))
          (bI (evm d 60 [vR 6 r_0, vI (1 : Int32)] h) fun x2 h1 =>
          bif isB x2 then some (some (vI x2), h1) else none)
          (L_StairReader_readPart_78 d r_0 r_1 x_2 x_3 x_4 xs0 h))
        (L_StairReader_readPart_78 d r_0 r_1 x_2 x_3 x_4 xs0 h))
      (L_StairReader_readPart_78 d r_0 r_1 x_2 x_3 x_4 xs0 h) := (evs_xpd _ tx_StairReader_readPart [27, 54, 78, 144] 89 _).trans rfl
set_option maxRecDepth 100000 in
theorem e_StairReader_readPart_78 (d : Nat) (r_0 : Nat) (r_1 : Nat) (x_2 : Int32) (x_3 : Int32) (x_4 : Int32) (x_5 : Int32) (h : Hp) : L_StairReader_readPart_78 d r_0 r_1 x_2 x_3 x_4 x_5 h =
    ifp (x_2 < (5 : Int32))
      (bR (hR h r_0 0) fun r1 =>
      bV (evm d 69 [vR 8 r1] h) fun h2 =>
      ifp (x_4 = 0)
        (ifp (x_3 = 0)
          (L_StairReader_readPart_144 d r_1 x_3 x_5 h2)
          (bI (evm d 53 [vR 6 r_0, vR 2 r_1, vI (x_2 + (1 : Int32))] h2) fun x4 h3 =>
          ifp (x4 = 0)
            (some (some (vI (0 : Int32)), h3))
            (L_StairReader_readPart_144 d r_1 x_3 x_5 h3)))
        (bI (evm d 49 [vR 6 r_0, vR 2 r_1, vI (x_2 + (1 : Int32))] h2) fun x6 h5 =>
        ifp (x6 = 0)
          (some (some (vI (0 : Int32)), h5))
          (bI (evm d 59 [vR 6 r_0, vI (41 : Int32)] h5) fun x8 h7 =>
          ifp (x8 = 0)
            (some (some (vI (0 : Int32)), h7))
            (some (some (vI (1 : Int32)), h7)))))
      (bI (evm d 60 [vR 6 r_0, vI (5 : Int32)] h) fun x10 h9 =>
      bif isB x10 then some (some (vI x10), h9) else none) := (evs_xpd _ tx_StairReader_readPart [27, 54, 78, 144] 89 _).trans rfl
set_option maxRecDepth 100000 in
theorem e_StairReader_readPart_144 (d : Nat) (r_1 : Nat) (x_3 : Int32) (x_5 : Int32) (h : Hp) : L_StairReader_readPart_144 d r_1 x_3 x_5 h =
    ifp (x_3 = 0)
      (bV (evm d 12 [vR 2 r_1, vI x_5] h) fun h1 =>
      some (some (vI (1 : Int32)), h1))
      (bV (evm d 12 [vR 2 r_1, vI (-5 : Int32)] h) fun h2 =>
      some (some (vI (1 : Int32)), h2)) := (evs_xpd _ tx_StairReader_readPart [27, 54, 78, 144] 89 _).trans rfl
set_option maxRecDepth 100000 in
theorem e_StairReader_readPart (d : Nat) (r_0 : Nat) (r_1 : Nat) (x_2 : Int32) (h : Hp) : evm (d + 1) 53 [vR 6 r_0, vR 2 r_1, vI x_2] h =
    bR (hR h r_0 0) fun r1 =>
    bI (evm d 70 [vR 8 r1, vR 40 16] h) fun x3 h2 =>
    bR (hR h2 r_0 0) fun r4 =>
    ifp ((hI h2 r4 2) = (40 : Int32))
      (L_StairReader_readPart_27 d r_0 r_1 x_2 x3 (1 : Int32) h2)
      (L_StairReader_readPart_27 d r_0 r_1 x_2 x3 (0 : Int32) h2) := (evs_xpd _ tx_StairReader_readPart [27, 54, 78, 144] 89 _).trans rfl
set_option maxRecDepth 100000 in
theorem e_StairReader_namedFact (d : Nat) (r_0 : Nat) (h : Hp) : evm (d + 1) 54 [vR 6 r_0] h =
    bR (hR h r_0 0) fun r1 =>
    bI (evm d 70 [vR 8 r1, vR 40 17] h) fun x3 h2 =>
    ifp (x3 = 0)
      (bR (hR h2 r_0 0) fun r4 =>
      bI (evm d 70 [vR 8 r4, vR 40 18] h2) fun x6 h5 =>
      ifp (x6 = 0)
        (bR (hR h5 r_0 0) fun r7 =>
        bI (evm d 70 [vR 8 r7, vR 40 19] h5) fun x9 h8 =>
        ifp (x9 = 0)
          (bR (hR h8 r_0 0) fun r10 =>
          bI (evm d 70 [vR 8 r10, vR 40 20] h8) fun x12 h11 =>
          ifp (x12 = 0)
            (some (some (vI (-5 : Int32)), h11))
            (some (some (vI (-4 : Int32)), h11)))
          (some (some (vI (-3 : Int32)), h8)))
        (some (some (vI (-2 : Int32)), h5)))
      (some (some (vI (-1 : Int32)), h2)) := (evs_xpd _ tx_StairReader_namedFact [] 35 _).trans rfl
set_option maxRecDepth 100000 in
theorem e_StairReader_isFirst (d : Nat) (r_0 : Nat) (x_1 : Int32) (h : Hp) : evm (d + 1) 55 [vR 6 r_0, vI x_1] h =
    ifp (((hI h r_0 1) &&& x_1) = 0)
      (bR (hR (sI h r_0 1 ((hI h r_0 1) ||| x_1)) r_0 0) fun r1 =>
      bV (evm d 69 [vR 8 r1] (sI h r_0 1 ((hI h r_0 1) ||| x_1))) fun h2 =>
      some (some (vI (1 : Int32)), h2))
      (bI (evm d 60 [vR 6 r_0, vI (3 : Int32)] h) fun x4 h3 =>
      bif isB x4 then some (some (vI x4), h3) else none) := (evs_xpd _ tx_StairReader_isFirst [] 25 _).trans rfl
noncomputable def L_StairReader_isNumber_39 (d : Nat) (r_0 : Nat) (h : Hp) : Option Rs := evs (evm d) tx_StairReader_isNumber (39, [some (vR 6 r_0), none, none], [], h)
set_option maxRecDepth 100000 in
theorem e_StairReader_isNumber_39 (d : Nat) (r_0 : Nat) (h : Hp) : L_StairReader_isNumber_39 d r_0 h =
    bI (evm d 60 [vR 6 r_0, vI (4 : Int32)] h) fun x2 h1 =>
    ifp (x2 = 0)
      (some (some (vI (0 : Int32)), h1))
      (some (some (vI (1 : Int32)), h1)) := (evs_xpd _ tx_StairReader_isNumber [39] 32 _).trans rfl
set_option maxRecDepth 100000 in
theorem e_StairReader_isNumber (d : Nat) (r_0 : Nat) (x_1 : Int32) (x_2 : Int32) (h : Hp) : evm (d + 1) 56 [vR 6 r_0, vI x_1, vI x_2] h =
    bR (hR h r_0 0) fun r1 =>
    ifp ((hI h r1 2) = (3 : Int32))
      (bR (hR h r_0 0) fun r2 =>
      ifp ((hI h r2 5) < x_1)
        (L_StairReader_isNumber_39 d r_0 h)
        (bR (hR h r_0 0) fun r3 =>
        ifp (x_2 < (hI h r3 5))
          (L_StairReader_isNumber_39 d r_0 h)
          (some (some (vI (1 : Int32)), h))))
      (bI (evm d 60 [vR 6 r_0, vI (1 : Int32)] h) fun x5 h4 =>
      bif isB x5 then some (some (vI x5), h4) else none) := (evs_xpd _ tx_StairReader_isNumber [39] 32 _).trans rfl
set_option maxRecDepth 100000 in
theorem e_StairReader_takeNumber (d : Nat) (r_0 : Nat) (x_1 : Int32) (x_2 : Int32) (h : Hp) : evm (d + 1) 57 [vR 6 r_0, vI x_1, vI x_2] h =
    bI (evm d 56 [vR 6 r_0, vI x_1, vI x_2] h) fun x2 h1 =>
    ifp (x2 = 0)
      (some (some (vI (0 : Int32)), h1))
      (bR (hR h1 r_0 0) fun r3 =>
      bR (hR (sI h1 r_0 3 (hI h1 r3 5)) r_0 0) fun r4 =>
      bV (evm d 69 [vR 8 r4] (sI h1 r_0 3 (hI h1 r3 5))) fun h5 =>
      some (some (vI (1 : Int32)), h5)) := (evs_xpd _ tx_StairReader_takeNumber [] 22 _).trans rfl
set_option maxRecDepth 100000 in
theorem e_StairReader_takeWord (d : Nat) (r_0 : Nat) (r_1 : Nat) (h : Hp) : evm (d + 1) 58 [vR 6 r_0, vR 40 r_1] h =
    bR (hR h r_0 0) fun r1 =>
    bI (evm d 70 [vR 8 r1, vR 40 r_1] h) fun x3 h2 =>
    ifp (x3 = 0)
      (bI (evm d 60 [vR 6 r_0, vI (1 : Int32)] h2) fun x7 h6 =>
      bif isB x7 then some (some (vI x7), h6) else none)
      (bR (hR h2 r_0 0) fun r4 =>
      bV (evm d 69 [vR 8 r4] h2) fun h5 =>
      some (some (vI (1 : Int32)), h5)) := (evs_xpd _ tx_StairReader_takeWord [] 19 _).trans rfl
set_option maxRecDepth 100000 in
theorem e_StairReader_takeSign (d : Nat) (r_0 : Nat) (x_1 : Int32) (h : Hp) : evm (d + 1) 59 [vR 6 r_0, vI x_1] h =
    bR (hR h r_0 0) fun r1 =>
    ifp ((hI h r1 2) = x_1)
      (bR (hR h r_0 0) fun r2 =>
      bV (evm d 69 [vR 8 r2] h) fun h3 =>
      some (some (vI (1 : Int32)), h3))
      (bI (evm d 60 [vR 6 r_0, vI (1 : Int32)] h) fun x5 h4 =>
      bif isB x5 then some (some (vI x5), h4) else none) := (evs_xpd _ tx_StairReader_takeSign [] 19 _).trans rfl
set_option maxRecDepth 100000 in
theorem e_StairReader_fail (d : Nat) (r_0 : Nat) (x_1 : Int32) (h : Hp) : evm (d + 1) 60 [vR 6 r_0, vI x_1] h =
    bR (hR h r_0 0) fun r1 =>
    some (some (vI (0 : Int32)), sI h r_0 2 (x_1 + ((16 : Int32) * (hI h r1 3)))) := (evs_xpd _ tx_StairReader_fail [] 16 _).trans rfl
set_option maxRecDepth 100000 in
theorem e_Sweep_new (d : Nat) (r_0 : Nat) (h : Hp) : evm (d + 1) 61 [vR 7 r_0] h =
    ifp (inb (41 : Int32) 1000000 = true) (
    alc h fun q1 =>
    ifp (inb (41 : Int32) 1000000 = true) (
    alc (sR (sN h 21 (ix (41 : Int32)) (ix (41 : Int32))) r_0 0 q1) fun q2 =>
    some (none, sR (sN (sR (sN h 21 (ix (41 : Int32)) (ix (41 : Int32))) r_0 0 q1) 20 (ix (41 : Int32)) (ix (41 : Int32))) r_0 1 q2)) none) none := (evs_xpd _ tx_Sweep_new [] 16 _).trans rfl
noncomputable def L_Sweep_fewestClimbers_22 (d : Nat) (r_0 : Nat) (r_1 : Nat) (r_2 : Nat) (x_3 : Int32) (x_4 : Int32) (h : Hp) : Option Rs := evs (evm d) tx_Sweep_fewestClimbers (22, [some (vR 7 r_0), some (vR 5 r_1), some (vR 20 r_2), some (vI x_3), some (vI x_4)], [], h)
noncomputable def L_Sweep_fewestClimbers_31 (d : Nat) (r_0 : Nat) (r_1 : Nat) (r_2 : Nat) (x_3 : Int32) (x_4 : Int32) (h : Hp) : Option Rs := evs (evm d) tx_Sweep_fewestClimbers (31, [some (vR 7 r_0), some (vR 5 r_1), some (vR 20 r_2), some (vI x_3), some (vI x_4)], [], h)
set_option maxRecDepth 100000 in
theorem e_Sweep_fewestClimbers_22 (d : Nat) (r_0 : Nat) (r_1 : Nat) (r_2 : Nat) (x_3 : Int32) (x_4 : Int32) (h : Hp) : L_Sweep_fewestClimbers_22 d r_0 r_1 r_2 x_3 x_4 h =
    ifp (x_4 < (hI h r_1 7))
      (L_Sweep_fewestClimbers_31 d r_0 r_1 r_2 x_3 x_4 h)
      (some (some (vI x_3), h)) := (evs_xpd _ tx_Sweep_fewestClimbers [22, 31] 63 _).trans rfl
set_option maxRecDepth 100000 in
theorem e_Sweep_fewestClimbers_31 (d : Nat) (r_0 : Nat) (r_1 : Nat) (r_2 : Nat) (x_3 : Int32) (x_4 : Int32) (h : Hp) : L_Sweep_fewestClimbers_31 d r_0 r_1 r_2 x_3 x_4 h =
    ifp (inb x_4 (hN h r_2) = true) (
    ifp ((hI h r_2 (ix x_4)) = (1 : Int32))
      (bI (evm d 64 [vR 7 r_0, vI (0 : Int32), vI x_4] h) fun x2 h1 =>
      ifp (x2 = 0)
        (some (some (vI (-1 : Int32)), h1))
        (bI (evm d 64 [vR 7 r_0, vI x_4, vI (hI h1 r_1 7)] h1) fun x4 h3 =>
        ifp (x4 = 0)
          (some (some (vI (-1 : Int32)), h3))
          (bI (evm d 65 [vR 7 r_0, vR 5 r_1, vR 20 r_2, vI x_4, vI (0 : Int32)] (sL h3 r_0 2 (0 : Int64))) fun x6 h5 =>
          ifp (x6 = 0)
            (L_Sweep_fewestClimbers_22 d r_0 r_1 r_2 (x_3 + (1 : Int32)) (x_4 + (1 : Int32)) h5)
            (L_Sweep_fewestClimbers_22 d r_0 r_1 r_2 (x_3 + (0 : Int32)) (x_4 + (1 : Int32)) h5))))
      (L_Sweep_fewestClimbers_22 d r_0 r_1 r_2 x_3 (x_4 + (1 : Int32)) h)) none := (evs_xpd _ tx_Sweep_fewestClimbers [22, 31] 63 _).trans rfl
set_option maxRecDepth 100000 in
theorem e_Sweep_fewestClimbers (d : Nat) (r_0 : Nat) (r_1 : Nat) (r_2 : Nat) (h : Hp) : evm (d + 1) 62 [vR 7 r_0, vR 5 r_1, vR 20 r_2] h =
    ifp ((hI h r_1 7) < (nI (hN h r_2)))
      (bV (evm d 63 [vR 7 r_0, vR 5 r_1, vR 20 r_2] h) fun h1 =>
      L_Sweep_fewestClimbers_22 d r_0 r_1 r_2 (0 : Int32) (1 : Int32) h1)
      (some (some (vI (-1 : Int32)), h)) := (evs_xpd _ tx_Sweep_fewestClimbers [22, 31] 63 _).trans rfl
noncomputable def L_Sweep_findReached_5 (d : Nat) (r_0 : Nat) (r_1 : Nat) (r_2 : Nat) (x_3 : Int32) (h : Hp) : Option Rs := evs (evm d) tx_Sweep_findReached (5, [some (vR 7 r_0), some (vR 5 r_1), some (vR 20 r_2), some (vI x_3), none, none], [], h)
noncomputable def L_Sweep_findReached_26 (d : Nat) (r_0 : Nat) (r_1 : Nat) (r_2 : Nat) (x_3 : Int32) (x_4 : Int32) (h : Hp) : Option Rs := evs (evm d) tx_Sweep_findReached (26, [some (vR 7 r_0), some (vR 5 r_1), some (vR 20 r_2), some (vI x_3), some (vI x_4), none], [], h)
noncomputable def L_Sweep_findReached_35 (d : Nat) (r_0 : Nat) (r_1 : Nat) (r_2 : Nat) (x_3 : Int32) (x_4 : Int32) (h : Hp) : Option Rs := evs (evm d) tx_Sweep_findReached (35, [some (vR 7 r_0), some (vR 5 r_1), some (vR 20 r_2), some (vI x_3), some (vI x_4), none], [], h)
set_option maxRecDepth 100000 in
theorem e_Sweep_findReached_5 (d : Nat) (r_0 : Nat) (r_1 : Nat) (r_2 : Nat) (x_3 : Int32) (h : Hp) : L_Sweep_findReached_5 d r_0 r_1 r_2 x_3 h =
    ifp (x_3 < 0)
      (some (none, h))
      (bR (hR h r_0 1) fun r1 =>
      ifp (inb x_3 (hN h r1) = true) (
      bR (hR (sI h r1 (ix x_3) (-1 : Int32)) r_0 0) fun r2 =>
      ifp (inb x_3 (hN (sI h r1 (ix x_3) (-1 : Int32)) r2) = true) (
      L_Sweep_findReached_26 d r_0 r_1 r_2 x_3 (0 : Int32) (sL (sI h r1 (ix x_3) (-1 : Int32)) r2 (ix x_3) (0 : Int64))) none) none) := (evs_xpd _ tx_Sweep_findReached [5, 26, 35] 68 _).trans rfl
set_option maxRecDepth 100000 in
theorem e_Sweep_findReached_26 (d : Nat) (r_0 : Nat) (r_1 : Nat) (r_2 : Nat) (x_3 : Int32) (x_4 : Int32) (h : Hp) : L_Sweep_findReached_26 d r_0 r_1 r_2 x_3 x_4 h =
    ifp (x_4 < (hI h r_1 8))
      (L_Sweep_findReached_35 d r_0 r_1 r_2 x_3 x_4 h)
      (L_Sweep_findReached_5 d r_0 r_1 r_2 (x_3 + (-1 : Int32)) h) := (evs_xpd _ tx_Sweep_findReached [5, 26, 35] 68 _).trans rfl
set_option maxRecDepth 100000 in
theorem e_Sweep_findReached_35 (d : Nat) (r_0 : Nat) (r_1 : Nat) (r_2 : Nat) (x_3 : Int32) (x_4 : Int32) (h : Hp) : L_Sweep_findReached_35 d r_0 r_1 r_2 x_3 x_4 h =
    bR (hR h r_1 0) fun r1 =>
    ifp (inb x_4 (hN h r1) = true) (
    ifp ((hI h r_1 7) < (x_3 + (hI h r1 (ix x_4))))
      (L_Sweep_findReached_26 d r_0 r_1 r_2 x_3 (x_4 + (1 : Int32)) h)
      (bR (hR h r_1 2) fun r2 =>
      ifp (inb (x_3 + (hI h r1 (ix x_4))) (hN h r2) = true) (
      ifp ((hI h r2 (ix (x_3 + (hI h r1 (ix x_4))))) = (1 : Int32))
        (L_Sweep_findReached_26 d r_0 r_1 r_2 x_3 (x_4 + (1 : Int32)) h)
        (ifp (inb (x_3 + (hI h r1 (ix x_4))) (hN h r_2) = true) (
        ifp ((hI h r_2 (ix (x_3 + (hI h r1 (ix x_4))))) = (2 : Int32))
          (L_Sweep_findReached_26 d r_0 r_1 r_2 x_3 (x_4 + (1 : Int32)) h)
          (bR (hR h r_0 0) fun r3 =>
          ifp (inb x_3 (hN h r3) = true) (
          bR (hR h r_0 0) fun r4 =>
          ifp (inb (x_3 + (hI h r1 (ix x_4))) (hN h r4) = true) (
          ifp (inb x_3 (hN h r3) = true) (
          L_Sweep_findReached_26 d r_0 r_1 r_2 x_3 (x_4 + (1 : Int32)) (sL h r3 (ix x_3) ((hL h r3 (ix x_3)) ||| ((hL h r4 (ix (x_3 + (hI h r1 (ix x_4))))) ||| ((1 : Int64) <<< ((x_3 + (hI h r1 (ix x_4))).toInt64 &&& 63)))))) none) none) none)) none)) none)) none := (evs_xpd _ tx_Sweep_findReached [5, 26, 35] 68 _).trans rfl
set_option maxRecDepth 100000 in
theorem e_Sweep_findReached (d : Nat) (r_0 : Nat) (r_1 : Nat) (r_2 : Nat) (h : Hp) : evm (d + 1) 63 [vR 7 r_0, vR 5 r_1, vR 20 r_2] h =
    L_Sweep_findReached_5 d r_0 r_1 r_2 (hI h r_1 7) h := (evs_xpd _ tx_Sweep_findReached [5, 26, 35] 68 _).trans rfl
set_option maxRecDepth 100000 in
theorem e_Sweep_leads (d : Nat) (r_0 : Nat) (x_1 : Int32) (x_2 : Int32) (h : Hp) : evm (d + 1) 64 [vR 7 r_0, vI x_1, vI x_2] h =
    bR (hR h r_0 0) fun r1 =>
    ifp (inb x_1 (hN h r1) = true) (
    ifp ((lg_cmp (((hL h r1 (ix x_1)) >>> (x_2.toInt64 &&& 63)) &&& (1 : Int64)) (0 : Int64)) = 0)
      (some (some (vI (0 : Int32)), h))
      (some (some (vI (1 : Int32)), h))) none := (evs_xpd _ tx_Sweep_leads [] 20 _).trans rfl
noncomputable def L_Sweep_joins_14 (d : Nat) (r_0 : Nat) (r_1 : Nat) (r_2 : Nat) (x_3 : Int32) (x_4 : Int32) (x_5 : Int32) (h : Hp) : Option Rs := evs (evm d) tx_Sweep_joins (14, [some (vR 7 r_0), some (vR 5 r_1), some (vR 20 r_2), some (vI x_3), some (vI x_4), some (vI x_5)], [], h)
noncomputable def L_Sweep_joins_58 (d : Nat) (r_0 : Nat) (r_1 : Nat) (r_2 : Nat) (x_3 : Int32) (x_4 : Int32) (x_5 : Int32) (h : Hp) : Option Rs := evs (evm d) tx_Sweep_joins (58, [some (vR 7 r_0), some (vR 5 r_1), some (vR 20 r_2), some (vI x_3), some (vI x_4), some (vI x_5)], [], h)
set_option maxRecDepth 100000 in
theorem e_Sweep_joins_14 (d : Nat) (r_0 : Nat) (r_1 : Nat) (r_2 : Nat) (x_3 : Int32) (x_4 : Int32) (x_5 : Int32) (h : Hp) : L_Sweep_joins_14 d r_0 r_1 r_2 x_3 x_4 x_5 h =
    ifp (x_5 < (hI h r_1 7))
      (ifp (inb x_5 (hN h r_2) = true) (
      ifp ((hI h r_2 (ix x_5)) = (1 : Int32))
        (bI (evm d 64 [vR 7 r_0, vI x_3, vI x_5] h) fun x2 h1 =>
        ifp (x2 = 0)
          (L_Sweep_joins_14 d r_0 r_1 r_2 x_3 x_4 (x_5 + (1 : Int32)) h1)
          (ifp ((lg_cmp (((hL h1 r_0 2) >>> (x_5.toInt64 &&& 63)) &&& (1 : Int64)) (0 : Int64)) = 0)
            (L_Sweep_joins_58 d r_0 r_1 r_2 x_3 x_4 x_5 h1)
            (L_Sweep_joins_14 d r_0 r_1 r_2 x_3 x_4 (x_5 + (1 : Int32)) h1)))
        (L_Sweep_joins_14 d r_0 r_1 r_2 x_3 x_4 (x_5 + (1 : Int32)) h)) none)
      (some (some (vI (0 : Int32)), h)) := (evs_xpd _ tx_Sweep_joins [14, 58] 75 _).trans rfl
set_option maxRecDepth 100000 in
theorem e_Sweep_joins_58 (d : Nat) (r_0 : Nat) (r_1 : Nat) (r_2 : Nat) (x_3 : Int32) (x_4 : Int32) (x_5 : Int32) (h : Hp) : L_Sweep_joins_58 d r_0 r_1 r_2 x_3 x_4 x_5 h =
    bR (hR (sL h r_0 2 ((hL h r_0 2) ||| ((1 : Int64) <<< (x_5.toInt64 &&& 63)))) r_0 1) fun r1 =>
    ifp (inb x_5 (hN (sL h r_0 2 ((hL h r_0 2) ||| ((1 : Int64) <<< (x_5.toInt64 &&& 63)))) r1) = true) (
    ifp ((hI (sL h r_0 2 ((hL h r_0 2) ||| ((1 : Int64) <<< (x_5.toInt64 &&& 63)))) r1 (ix x_5)) = (-1 : Int32))
      (bR (hR (sL h r_0 2 ((hL h r_0 2) ||| ((1 : Int64) <<< (x_5.toInt64 &&& 63)))) r_0 1) fun r2 =>
      ifp (inb x_5 (hN (sL h r_0 2 ((hL h r_0 2) ||| ((1 : Int64) <<< (x_5.toInt64 &&& 63)))) r2) = true) (
      some (some (vI (1 : Int32)), sI (sL h r_0 2 ((hL h r_0 2) ||| ((1 : Int64) <<< (x_5.toInt64 &&& 63)))) r2 (ix x_5) x_3)) none)
      (bR (hR (sL h r_0 2 ((hL h r_0 2) ||| ((1 : Int64) <<< (x_5.toInt64 &&& 63)))) r_0 1) fun r3 =>
      ifp (inb x_5 (hN (sL h r_0 2 ((hL h r_0 2) ||| ((1 : Int64) <<< (x_5.toInt64 &&& 63)))) r3) = true) (
      bI (evm d 65 [vR 7 r_0, vR 5 r_1, vR 20 r_2, vI (hI (sL h r_0 2 ((hL h r_0 2) ||| ((1 : Int64) <<< (x_5.toInt64 &&& 63)))) r3 (ix x_5)), vI (x_4 + (1 : Int32))] (sL h r_0 2 ((hL h r_0 2) ||| ((1 : Int64) <<< (x_5.toInt64 &&& 63))))) fun x5 h4 =>
      ifp (x5 = 0)
        (L_Sweep_joins_14 d r_0 r_1 r_2 x_3 x_4 (x_5 + (1 : Int32)) h4)
        (bR (hR h4 r_0 1) fun r6 =>
        ifp (inb x_5 (hN h4 r6) = true) (
        some (some (vI (1 : Int32)), sI h4 r6 (ix x_5) x_3)) none)) none)) none := (evs_xpd _ tx_Sweep_joins [14, 58] 75 _).trans rfl
set_option maxRecDepth 100000 in
theorem e_Sweep_joins (d : Nat) (r_0 : Nat) (r_1 : Nat) (r_2 : Nat) (x_3 : Int32) (x_4 : Int32) (h : Hp) : evm (d + 1) 65 [vR 7 r_0, vR 5 r_1, vR 20 r_2, vI x_3, vI x_4] h =
    ifp ((40 : Int32) < x_4)
      (some (some (vI (0 : Int32)), h))
      (L_Sweep_joins_14 d r_0 r_1 r_2 x_3 x_4 (x_3 + (1 : Int32)) h) := (evs_xpd _ tx_Sweep_joins [14, 58] 75 _).trans rfl
set_option maxRecDepth 100000 in
theorem e_Tape_new (d : Nat) (r_0 : Nat) (h : Hp) : evm (d + 1) 66 [vR 8 r_0] h =
    ifp (inb (1000 : Int32) 1000000 = true) (
    alc h fun q1 =>
    some (none, sR (sN h 22 (ix (1000 : Int32)) (ix (1000 : Int32))) r_0 0 q1)) none := (evs_xpd _ tx_Tape_new [] 12 _).trans rfl
noncomputable def L_Tape_put_3 (d : Nat) (r_0 : Nat) (y_1 : Int64) (x_3 : Int32) (h : Hp) : Option Rs := evs (evm d) tx_Tape_put (3, [some (vR 8 r_0), some (vL y_1), none, some (vI x_3), none, none], [], h)
noncomputable def L_Tape_put_43 (d : Nat) (r_0 : Nat) (y_1 : Int64) (x_3 : Int32) (x_4 : Int32) (xs0 : Int32) (h : Hp) : Option Rs := evs (evm d) tx_Tape_put (43, [some (vR 8 r_0), some (vL y_1), none, some (vI x_3), some (vI x_4), none], [vI xs0], h)
set_option maxRecDepth 100000 in
theorem e_Tape_put_3 (d : Nat) (r_0 : Nat) (y_1 : Int64) (x_3 : Int32) (h : Hp) : L_Tape_put_3 d r_0 y_1 x_3 h =
    ifp (x_3 < 0)
      (some (none, h))
      (ifp (((y_1 >>> (x_3.toInt64 &&& 63)).toInt32 &&& (255 : Int32)) = (10 : Int32))
        (L_Tape_put_43 d r_0 y_1 x_3 ((y_1 >>> (x_3.toInt64 &&& 63)).toInt32 &&& (255 : Int32)) (1 : Int32) h)
        (ifp (((y_1 >>> (x_3.toInt64 &&& 63)).toInt32 &&& (255 : Int32)) < (32 : Int32))
          (L_Tape_put_43 d r_0 y_1 x_3 ((y_1 >>> (x_3.toInt64 &&& 63)).toInt32 &&& (255 : Int32)) (0 : Int32) h)
          (ifp ((126 : Int32) < ((y_1 >>> (x_3.toInt64 &&& 63)).toInt32 &&& (255 : Int32)))
            (L_Tape_put_43 d r_0 y_1 x_3 ((y_1 >>> (x_3.toInt64 &&& 63)).toInt32 &&& (255 : Int32)) (0 : Int32) h)
            (L_Tape_put_43 d r_0 y_1 x_3 ((y_1 >>> (x_3.toInt64 &&& 63)).toInt32 &&& (255 : Int32)) (1 : Int32) h)))) := (evs_xpd _ tx_Tape_put [3, 43] 53 _).trans rfl
set_option maxRecDepth 100000 in
theorem e_Tape_put_43 (d : Nat) (r_0 : Nat) (y_1 : Int64) (x_3 : Int32) (x_4 : Int32) (xs0 : Int32) (h : Hp) : L_Tape_put_43 d r_0 y_1 x_3 x_4 xs0 h =
    ifp (xs0 = 0)
      (L_Tape_put_3 d r_0 y_1 (x_3 + (-8 : Int32)) h)
      (bR (hR h r_0 0) fun r1 =>
      ifp ((hI h r_0 1) < (nI (hN h r1)))
        (bR (hR h r_0 0) fun r2 =>
        ifp (inb (hI h r_0 1) (hN h r2) = true) (
        bif isCh (chr x_4) then
        L_Tape_put_3 d r_0 y_1 (x_3 + (-8 : Int32)) (sI (sI h r2 (ix (hI h r_0 1)) (chr x_4)) r_0 1 ((hI (sI h r2 (ix (hI h r_0 1)) (chr x_4)) r_0 1) + (1 : Int32)))
        else none) none)
        (L_Tape_put_3 d r_0 y_1 (x_3 + (-8 : Int32)) h)) := (evs_xpd _ tx_Tape_put [3, 43] 53 _).trans rfl
set_option maxRecDepth 100000 in
theorem e_Tape_put (d : Nat) (r_0 : Nat) (y_1 : Int64) (h : Hp) : evm (d + 1) 67 [vR 8 r_0, vL y_1] h =
    L_Tape_put_3 d r_0 y_1 (56 : Int32) h := (evs_xpd _ tx_Tape_put [3, 43] 53 _).trans rfl
set_option maxRecDepth 100000 in
theorem e_Tape_rewind (d : Nat) (r_0 : Nat) (h : Hp) : evm (d + 1) 68 [vR 8 r_0] h =
    bV (evm d 69 [vR 8 r_0] (sI h r_0 4 (0 : Int32))) fun h1 =>
    some (none, h1) := (evs_xpd _ tx_Tape_rewind [] 11 _).trans rfl
noncomputable def L_Tape_advance_8 (d : Nat) (r_0 : Nat) (h : Hp) : Option Rs := evs (evm d) tx_Tape_advance (8, [some (vR 8 r_0), none], [], h)
noncomputable def L_Tape_advance_47 (d : Nat) (r_0 : Nat) (h : Hp) : Option Rs := evs (evm d) tx_Tape_advance (47, [some (vR 8 r_0), none], [], h)
noncomputable def L_Tape_advance_143 (d : Nat) (r_0 : Nat) (xs0 : Int32) (rs1 : Nat) (h : Hp) : Option Rs := evs (evm d) tx_Tape_advance (143, [some (vR 8 r_0), none], [vI xs0, vR 8 rs1], h)
set_option maxRecDepth 100000 in
theorem e_Tape_advance_8 (d : Nat) (r_0 : Nat) (h : Hp) : L_Tape_advance_8 d r_0 h =
    ifp ((hI h r_0 3) < (hI h r_0 1))
      (bR (hR h r_0 0) fun r1 =>
      ifp (inb (hI h r_0 3) (hN h r1) = true) (
      bI (evm d 73 [vI (hI h r1 (ix (hI h r_0 3)))] h) fun x3 h2 =>
      ifp (x3 = 0)
        (L_Tape_advance_47 d r_0 h2)
        (L_Tape_advance_8 d r_0 (sI h2 r_0 3 ((hI h2 r_0 3) + (1 : Int32))))) none)
      (L_Tape_advance_47 d r_0 h) := (evs_xpd _ tx_Tape_advance [8, 47, 143] 83 _).trans rfl
set_option maxRecDepth 100000 in
theorem e_Tape_advance_47 (d : Nat) (r_0 : Nat) (h : Hp) : L_Tape_advance_47 d r_0 h =
    ifp ((hI (sI h r_0 4 (hI h r_0 3)) r_0 3) < (hI (sI h r_0 4 (hI h r_0 3)) r_0 1))
      (bR (hR (sI h r_0 4 (hI h r_0 3)) r_0 0) fun r1 =>
      ifp (inb (hI (sI h r_0 4 (hI h r_0 3)) r_0 3) (hN (sI h r_0 4 (hI h r_0 3)) r1) = true) (
      bI (evm d 74 [vI (hI (sI h r_0 4 (hI h r_0 3)) r1 (ix (hI (sI h r_0 4 (hI h r_0 3)) r_0 3)))] (sI h r_0 4 (hI h r_0 3))) fun x3 h2 =>
      ifp (x3 = 0)
        (bR (hR h2 r_0 0) fun r4 =>
        ifp (inb (hI h2 r_0 3) (hN h2 r4) = true) (
        bI (evm d 75 [vI (hI h2 r4 (ix (hI h2 r_0 3)))] h2) fun x6 h5 =>
        ifp (x6 = 0)
          (bR (hR h5 r_0 0) fun r7 =>
          ifp (inb (hI h5 r_0 3) (hN h5 r7) = true) (
          bI (evm d 246 [vR 40 0, vI (hI h5 r7 (ix (hI h5 r_0 3)))] h5) fun x9 h8 =>
          ifp (x9 < 0)
            (L_Tape_advance_143 d r_0 (1 : Int32) r_0 h8)
            (L_Tape_advance_143 d r_0 (hI h5 r7 (ix (hI h5 r_0 3))) r_0 h8)) none)
          (bV (evm d 72 [vR 8 r_0] h5) fun h10 =>
          some (none, h10))) none)
        (bV (evm d 71 [vR 8 r_0] h2) fun h11 =>
        some (none, h11))) none)
      (some (none, sI (sI h r_0 4 (hI h r_0 3)) r_0 2 (0 : Int32))) := (evs_xpd _ tx_Tape_advance [8, 47, 143] 83 _).trans rfl
set_option maxRecDepth 100000 in
theorem e_Tape_advance_143 (d : Nat) (r_0 : Nat) (xs0 : Int32) (rs1 : Nat) (h : Hp) : L_Tape_advance_143 d r_0 xs0 rs1 h =
    some (none, sI (sI h rs1 2 xs0) r_0 4 ((hI (sI h rs1 2 xs0) r_0 4) + (1 : Int32))) := (evs_xpd _ tx_Tape_advance [8, 47, 143] 83 _).trans rfl
set_option maxRecDepth 100000 in
theorem e_Tape_advance (d : Nat) (r_0 : Nat) (h : Hp) : evm (d + 1) 69 [vR 8 r_0] h =
    L_Tape_advance_8 d r_0 (sI h r_0 3 (hI h r_0 4)) := (evs_xpd _ tx_Tape_advance [8, 47, 143] 83 _).trans rfl
noncomputable def L_Tape_isWord_28 (d : Nat) (r_0 : Nat) (r_1 : Nat) (x_2 : Int32) (h : Hp) : Option Rs := evs (evm d) tx_Tape_isWord (28, [some (vR 8 r_0), some (vR 40 r_1), some (vI x_2)], [], h)
set_option maxRecDepth 100000 in
theorem e_Tape_isWord_28 (d : Nat) (r_0 : Nat) (r_1 : Nat) (x_2 : Int32) (h : Hp) : L_Tape_isWord_28 d r_0 r_1 x_2 h =
    bI (evm d 242 [vR 40 r_1] h) fun x2 h1 =>
    ifp (x_2 < x2)
      (bR (hR h1 r_0 0) fun r3 =>
      ifp (inb ((hI h1 r_0 3) + x_2) (hN h1 r3) = true) (
      bI (evm d 245 [vR 40 r_1, vI x_2] h1) fun x5 h4 =>
      ifp ((hI h1 r3 (ix ((hI h1 r_0 3) + x_2))) = x5)
        (L_Tape_isWord_28 d r_0 r_1 (x_2 + (1 : Int32)) h4)
        (some (some (vI (0 : Int32)), h4))) none)
      (some (some (vI (1 : Int32)), h1)) := (evs_xpd _ tx_Tape_isWord [28] 42 _).trans rfl
set_option maxRecDepth 100000 in
theorem e_Tape_isWord (d : Nat) (r_0 : Nat) (r_1 : Nat) (h : Hp) : evm (d + 1) 70 [vR 8 r_0, vR 40 r_1] h =
    ifp ((hI h r_0 2) = (2 : Int32))
      (bI (evm d 242 [vR 40 r_1] h) fun x2 h1 =>
      ifp (x2 = ((hI h1 r_0 4) - (hI h1 r_0 3)))
        (L_Tape_isWord_28 d r_0 r_1 (0 : Int32) h1)
        (some (some (vI (0 : Int32)), h1)))
      (some (some (vI (0 : Int32)), h)) := (evs_xpd _ tx_Tape_isWord [28] 42 _).trans rfl
noncomputable def L_Tape_readWord_0 (d : Nat) (r_0 : Nat) (h : Hp) : Option Rs := evs (evm d) tx_Tape_readWord (0, [some (vR 8 r_0)], [], h)
noncomputable def L_Tape_readWord_39 (d : Nat) (r_0 : Nat) (h : Hp) : Option Rs := evs (evm d) tx_Tape_readWord (39, [some (vR 8 r_0)], [], h)
set_option maxRecDepth 100000 in
theorem e_Tape_readWord_0 (d : Nat) (r_0 : Nat) (h : Hp) : L_Tape_readWord_0 d r_0 h =
    ifp ((hI h r_0 4) < (hI h r_0 1))
      (bR (hR h r_0 0) fun r1 =>
      ifp (inb (hI h r_0 4) (hN h r1) = true) (
      bI (evm d 74 [vI (hI h r1 (ix (hI h r_0 4)))] h) fun x3 h2 =>
      ifp (x3 = 0)
        (L_Tape_readWord_39 d r_0 h2)
        (L_Tape_readWord_0 d r_0 (sI h2 r_0 4 ((hI h2 r_0 4) + (1 : Int32))))) none)
      (L_Tape_readWord_39 d r_0 h) := (evs_xpd _ tx_Tape_readWord [0, 39] 37 _).trans rfl
set_option maxRecDepth 100000 in
theorem e_Tape_readWord_39 (d : Nat) (r_0 : Nat) (h : Hp) : L_Tape_readWord_39 d r_0 h =
    ifp ((8 : Int32) < ((hI h r_0 4) - (hI h r_0 3)))
      (some (none, sI h r_0 2 (1 : Int32)))
      (some (none, sI h r_0 2 (2 : Int32))) := (evs_xpd _ tx_Tape_readWord [0, 39] 37 _).trans rfl
set_option maxRecDepth 100000 in
theorem e_Tape_readWord (d : Nat) (r_0 : Nat) (h : Hp) : evm (d + 1) 71 [vR 8 r_0] h =
    L_Tape_readWord_0 d r_0 h := rfl
noncomputable def L_Tape_readNumber_5 (d : Nat) (r_0 : Nat) (h : Hp) : Option Rs := evs (evm d) tx_Tape_readNumber (5, [some (vR 8 r_0)], [], h)
noncomputable def L_Tape_readNumber_68 (d : Nat) (r_0 : Nat) (h : Hp) : Option Rs := evs (evm d) tx_Tape_readNumber (68, [some (vR 8 r_0)], [], h)
set_option maxRecDepth 100000 in
theorem e_Tape_readNumber_5 (d : Nat) (r_0 : Nat) (h : Hp) : L_Tape_readNumber_5 d r_0 h =
    ifp ((hI h r_0 4) < (hI h r_0 1))
      (bR (hR h r_0 0) fun r1 =>
      ifp (inb (hI h r_0 4) (hN h r1) = true) (
      bI (evm d 75 [vI (hI h r1 (ix (hI h r_0 4)))] h) fun x3 h2 =>
      ifp (x3 = 0)
        (L_Tape_readNumber_68 d r_0 h2)
        (bR (hR h2 r_0 0) fun r4 =>
        ifp (inb (hI h2 r_0 4) (hN h2 r4) = true) (
        L_Tape_readNumber_5 d r_0 (sI (sI h2 r_0 5 ((((hI h2 r_0 5) * (10 : Int32)) + (hI h2 r4 (ix (hI h2 r_0 4)))) - (48 : Int32))) r_0 4 ((hI (sI h2 r_0 5 ((((hI h2 r_0 5) * (10 : Int32)) + (hI h2 r4 (ix (hI h2 r_0 4)))) - (48 : Int32))) r_0 4) + (1 : Int32)))) none)) none)
      (L_Tape_readNumber_68 d r_0 h) := (evs_xpd _ tx_Tape_readNumber [5, 68] 54 _).trans rfl
set_option maxRecDepth 100000 in
theorem e_Tape_readNumber_68 (d : Nat) (r_0 : Nat) (h : Hp) : L_Tape_readNumber_68 d r_0 h =
    ifp ((4 : Int32) < ((hI h r_0 4) - (hI h r_0 3)))
      (some (none, sI h r_0 2 (1 : Int32)))
      (some (none, sI h r_0 2 (3 : Int32))) := (evs_xpd _ tx_Tape_readNumber [5, 68] 54 _).trans rfl
set_option maxRecDepth 100000 in
theorem e_Tape_readNumber (d : Nat) (r_0 : Nat) (h : Hp) : evm (d + 1) 72 [vR 8 r_0] h =
    L_Tape_readNumber_5 d r_0 (sI h r_0 5 (0 : Int32)) := (evs_xpd _ tx_Tape_readNumber [5, 68] 54 _).trans rfl
set_option maxRecDepth 100000 in
theorem e_Tape_isBlank (d : Nat) (x_0 : Int32) (h : Hp) : evm (d + 1) 73 [vI x_0] h =
    ifp (x_0 = (10 : Int32))
      (some (some (vI (1 : Int32)), h))
      (ifp (x_0 = (32 : Int32))
        (some (some (vI (1 : Int32)), h))
        (some (some (vI (0 : Int32)), h))) := (evs_xpd _ tx_Tape_isBlank [] 15 _).trans rfl
set_option maxRecDepth 100000 in
theorem e_Tape_isLetter (d : Nat) (x_0 : Int32) (h : Hp) : evm (d + 1) 74 [vI x_0] h =
    ifp (x_0 < (97 : Int32))
      (some (some (vI (0 : Int32)), h))
      (ifp ((122 : Int32) < x_0)
        (some (some (vI (0 : Int32)), h))
        (some (some (vI (1 : Int32)), h))) := (evs_xpd _ tx_Tape_isLetter [] 15 _).trans rfl
set_option maxRecDepth 100000 in
theorem e_Tape_isDigit (d : Nat) (x_0 : Int32) (h : Hp) : evm (d + 1) 75 [vI x_0] h =
    ifp (x_0 < (48 : Int32))
      (some (some (vI (0 : Int32)), h))
      (ifp ((57 : Int32) < x_0)
        (some (some (vI (0 : Int32)), h))
        (some (some (vI (1 : Int32)), h))) := (evs_xpd _ tx_Tape_isDigit [] 15 _).trans rfl
set_option maxRecDepth 100000 in
theorem e_Throng_new (d : Nat) (r_0 : Nat) (h : Hp) : evm (d + 1) 76 [vR 9 r_0] h =
    ifp (inb (41 : Int32) 1000000 = true) (
    alc h fun q1 =>
    alc (sR (sN h 21 (ix (41 : Int32)) (ix (41 : Int32))) r_0 0 q1) fun q2 =>
    bV (evm d 0 [vR 0 q2] (sN (sR (sN h 21 (ix (41 : Int32)) (ix (41 : Int32))) r_0 0 q1) 0 0 6)) fun h3 =>
    ifp (inb (6 : Int32) 1000000 = true) (
    alc (sR h3 r_0 2 q2) fun q4 =>
    ifp (inb (6 : Int32) 1000000 = true) (
    alc (sR (sN (sR h3 r_0 2 q2) 20 (ix (6 : Int32)) (ix (6 : Int32))) r_0 3 q4) fun q5 =>
    ifp (inb (6 : Int32) 1000000 = true) (
    alc (sR (sN (sR (sN (sR h3 r_0 2 q2) 20 (ix (6 : Int32)) (ix (6 : Int32))) r_0 3 q4) 20 (ix (6 : Int32)) (ix (6 : Int32))) r_0 4 q5) fun q6 =>
    ifp (inb (64 : Int32) 1000000 = true) (
    alc (sR (sN (sR (sN (sR (sN (sR h3 r_0 2 q2) 20 (ix (6 : Int32)) (ix (6 : Int32))) r_0 3 q4) 20 (ix (6 : Int32)) (ix (6 : Int32))) r_0 4 q5) 21 (ix (6 : Int32)) (ix (6 : Int32))) r_0 5 q6) fun q7 =>
    some (none, sR (sN (sR (sN (sR (sN (sR (sN (sR h3 r_0 2 q2) 20 (ix (6 : Int32)) (ix (6 : Int32))) r_0 3 q4) 20 (ix (6 : Int32)) (ix (6 : Int32))) r_0 4 q5) 21 (ix (6 : Int32)) (ix (6 : Int32))) r_0 5 q6) 21 (ix (64 : Int32)) (ix (64 : Int32))) r_0 6 q7)) none) none) none) none) none := (evs_xpd _ tx_Throng_new [] 33 _).trans rfl
set_option maxRecDepth 100000 in
theorem e_Throng_forget (d : Nat) (r_0 : Nat) (h : Hp) : evm (d + 1) 77 [vR 9 r_0] h =
    some (none, sL h r_0 7 (0 : Int64)) := (evs_xpd _ tx_Throng_forget [] 9 _).trans rfl
noncomputable def L_Throng_goUp_37 (d : Nat) (r_0 : Nat) (r_1 : Nat) (x_4 : Int32) (h : Hp) : Option Rs := evs (evm d) tx_Throng_goUp (37, [some (vR 9 r_0), some (vR 5 r_1), none, none, some (vI x_4), none, none], [], h)
noncomputable def L_Throng_goUp_68 (d : Nat) (r_0 : Nat) (r_1 : Nat) (x_4 : Int32) (x_6 : Int32) (h : Hp) : Option Rs := evs (evm d) tx_Throng_goUp (68, [some (vR 9 r_0), some (vR 5 r_1), none, none, some (vI x_4), none, some (vI x_6)], [], h)
set_option maxRecDepth 100000 in
theorem e_Throng_goUp_37 (d : Nat) (r_0 : Nat) (r_1 : Nat) (x_4 : Int32) (h : Hp) : L_Throng_goUp_37 d r_0 r_1 x_4 h =
    ifp (x_4 < (hI h r_1 7))
      (bI (evm d 32 [vR 5 r_1] h) fun x2 h1 =>
      bI (evm d 241 [vI ((hI h r_1 7) - (1 : Int32)), vI (x_4 * x2)] h1) fun x4 h3 =>
      L_Throng_goUp_68 d r_0 r_1 x_4 x4 h3)
      (some (none, h)) := (evs_xpd _ tx_Throng_goUp [37, 68] 58 _).trans rfl
set_option maxRecDepth 100000 in
theorem e_Throng_goUp_68 (d : Nat) (r_0 : Nat) (r_1 : Nat) (x_4 : Int32) (x_6 : Int32) (h : Hp) : L_Throng_goUp_68 d r_0 r_1 x_4 x_6 h =
    ifp (x_6 < x_4)
      (L_Throng_goUp_37 d r_0 r_1 (x_4 + (1 : Int32)) h)
      (bV (evm d 80 [vR 9 r_0, vR 5 r_1, vI x_6, vI x_4] h) fun h1 =>
      L_Throng_goUp_68 d r_0 r_1 x_4 (x_6 + (-1 : Int32)) h1) := (evs_xpd _ tx_Throng_goUp [37, 68] 58 _).trans rfl
set_option maxRecDepth 100000 in
theorem e_Throng_goUp (d : Nat) (r_0 : Nat) (r_1 : Nat) (y_2 : Int64) (h : Hp) : evm (d + 1) 78 [vR 9 r_0, vR 5 r_1, vL y_2] h =
    ifp ((lg_cmp (hL h r_0 7) y_2) = 0)
      (some (none, h))
      (bV (evm d 79 [vR 9 r_0, vR 5 r_1] (sL h r_0 7 y_2)) fun h1 =>
      bR (hR h1 r_0 0) fun r2 =>
      ifp (inb (0 : Int32) (hN h1 r2) = true) (
      bR (hR (sL h1 r2 (ix (0 : Int32)) y_2) r_0 6) fun r3 =>
      ifp (inb (0 : Int32) (hN (sL h1 r2 (ix (0 : Int32)) y_2) r3) = true) (
      L_Throng_goUp_37 d r_0 r_1 (0 : Int32) (sL (sL h1 r2 (ix (0 : Int32)) y_2) r3 (ix (0 : Int32)) y_2)) none) none) := (evs_xpd _ tx_Throng_goUp [37, 68] 58 _).trans rfl
noncomputable def L_Throng_begin_74 (d : Nat) (r_0 : Nat) (x_3 : Int32) (h : Hp) : Option Rs := evs (evm d) tx_Throng_begin (74, [some (vR 9 r_0), none, none, some (vI x_3)], [], h)
noncomputable def L_Throng_begin_98 (d : Nat) (r_0 : Nat) (x_3 : Int32) (h : Hp) : Option Rs := evs (evm d) tx_Throng_begin (98, [some (vR 9 r_0), none, none, some (vI x_3)], [], h)
set_option maxRecDepth 100000 in
theorem e_Throng_begin_74 (d : Nat) (r_0 : Nat) (x_3 : Int32) (h : Hp) : L_Throng_begin_74 d r_0 x_3 h =
    bR (hR h r_0 6) fun r1 =>
    ifp (x_3 < (nI (hN h r1)))
      (bR (hR h r_0 6) fun r2 =>
      ifp (inb x_3 (hN h r2) = true) (
      L_Throng_begin_74 d r_0 (x_3 + (1 : Int32)) (sL h r2 (ix x_3) (0 : Int64))) none)
      (L_Throng_begin_98 d r_0 (0 : Int32) h) := (evs_xpd _ tx_Throng_begin [74, 98] 78 _).trans rfl
set_option maxRecDepth 100000 in
theorem e_Throng_begin_98 (d : Nat) (r_0 : Nat) (x_3 : Int32) (h : Hp) : L_Throng_begin_98 d r_0 x_3 h =
    bR (hR h r_0 0) fun r1 =>
    ifp (x_3 < (nI (hN h r1)))
      (bR (hR h r_0 0) fun r2 =>
      ifp (inb x_3 (hN h r2) = true) (
      L_Throng_begin_98 d r_0 (x_3 + (1 : Int32)) (sL h r2 (ix x_3) (0 : Int64))) none)
      (some (none, sL h r_0 1 (0 : Int64))) := (evs_xpd _ tx_Throng_begin [74, 98] 78 _).trans rfl
set_option maxRecDepth 100000 in
theorem e_Throng_begin (d : Nat) (r_0 : Nat) (r_1 : Nat) (h : Hp) : evm (d + 1) 79 [vR 9 r_0, vR 5 r_1] h =
    bI (evm d 33 [vR 5 r_1] (sI h r_0 8 ((hI h r_1 8) + (1 : Int32)))) fun x2 h1 =>
    bI (evm d 34 [vR 5 r_1] (sI h1 r_0 9 x2)) fun x4 h3 =>
    bR (hR (sI h3 r_0 10 x4) r_0 6) fun r5 =>
    ifp ((nI (hN (sI h3 r_0 10 x4) r5)) < ((((hI (sI h3 r_0 10 x4) r_1 7) * (hI (sI h3 r_0 10 x4) r_0 8)) * (hI (sI h3 r_0 10 x4) r_0 9)) * (hI (sI h3 r_0 10 x4) r_0 10)))
      (bR (hR (sI h3 r_0 10 x4) r_0 6) fun r6 =>
      bI (evm d 240 [vI ((((hI (sI h3 r_0 10 x4) r_1 7) * (hI (sI h3 r_0 10 x4) r_0 8)) * (hI (sI h3 r_0 10 x4) r_0 9)) * (hI (sI h3 r_0 10 x4) r_0 10)), vI ((2 : Int32) * (nI (hN (sI h3 r_0 10 x4) r6)))] (sI h3 r_0 10 x4)) fun x8 h7 =>
      ifp (inb x8 1000000 = true) (
      alc h7 fun q9 =>
      L_Throng_begin_74 d r_0 (0 : Int32) (sR (sN h7 21 (ix x8) (ix x8)) r_0 6 q9)) none)
      (L_Throng_begin_74 d r_0 (0 : Int32) (sI h3 r_0 10 x4)) := (evs_xpd _ tx_Throng_begin [74, 98] 78 _).trans rfl
noncomputable def L_Throng_passStep_3 (d : Nat) (r_0 : Nat) (r_1 : Nat) (x_2 : Int32) (x_3 : Int32) (x_4 : Int32) (h : Hp) : Option Rs := evs (evm d) tx_Throng_passStep (3, [some (vR 9 r_0), some (vR 5 r_1), some (vI x_2), some (vI x_3), some (vI x_4), none, none, none, none, none, none, none], [], h)
noncomputable def L_Throng_passStep_47 (d : Nat) (r_0 : Nat) (r_1 : Nat) (x_2 : Int32) (x_3 : Int32) (x_4 : Int32) (x_5 : Int32) (x_6 : Int32) (x_7 : Int32) (h : Hp) : Option Rs := evs (evm d) tx_Throng_passStep (47, [some (vR 9 r_0), some (vR 5 r_1), some (vI x_2), some (vI x_3), some (vI x_4), some (vI x_5), some (vI x_6), some (vI x_7), none, none, none, none], [], h)
noncomputable def L_Throng_passStep_59 (d : Nat) (r_0 : Nat) (r_1 : Nat) (x_2 : Int32) (x_3 : Int32) (x_4 : Int32) (x_5 : Int32) (x_6 : Int32) (x_7 : Int32) (x_8 : Int32) (h : Hp) : Option Rs := evs (evm d) tx_Throng_passStep (59, [some (vR 9 r_0), some (vR 5 r_1), some (vI x_2), some (vI x_3), some (vI x_4), some (vI x_5), some (vI x_6), some (vI x_7), some (vI x_8), none, none, none], [], h)
noncomputable def L_Throng_passStep_68 (d : Nat) (r_0 : Nat) (r_1 : Nat) (x_2 : Int32) (x_3 : Int32) (x_4 : Int32) (x_5 : Int32) (x_6 : Int32) (x_7 : Int32) (x_8 : Int32) (h : Hp) : Option Rs := evs (evm d) tx_Throng_passStep (68, [some (vR 9 r_0), some (vR 5 r_1), some (vI x_2), some (vI x_3), some (vI x_4), some (vI x_5), some (vI x_6), some (vI x_7), some (vI x_8), none, none, none], [], h)
noncomputable def L_Throng_passStep_144 (d : Nat) (r_0 : Nat) (r_1 : Nat) (x_2 : Int32) (x_3 : Int32) (x_4 : Int32) (x_5 : Int32) (x_6 : Int32) (x_7 : Int32) (x_8 : Int32) (x_9 : Int32) (h : Hp) : Option Rs := evs (evm d) tx_Throng_passStep (144, [some (vR 9 r_0), some (vR 5 r_1), some (vI x_2), some (vI x_3), some (vI x_4), some (vI x_5), some (vI x_6), some (vI x_7), some (vI x_8), some (vI x_9), none, none], [], h)
set_option maxRecDepth 100000 in
theorem e_Throng_passStep_3 (d : Nat) (r_0 : Nat) (r_1 : Nat) (x_2 : Int32) (x_3 : Int32) (x_4 : Int32) (h : Hp) : L_Throng_passStep_3 d r_0 r_1 x_2 x_3 x_4 h =
    ifp (x_4 < (hI h r_0 8))
      (ifp ((hI h r_1 8) < x_4)
        (some (none, h))
        (ifp (x_4 = 0)
          (L_Throng_passStep_47 d r_0 r_1 x_2 x_3 x_4 (0 : Int32) (0 : Int32) (0 : Int32) h)
          (bR (hR h r_1 0) fun r1 =>
          ifp (inb (x_4 - (1 : Int32)) (hN h r1) = true) (
          L_Throng_passStep_47 d r_0 r_1 x_2 x_3 x_4 (hI h r1 (ix (x_4 - (1 : Int32)))) (0 : Int32) (0 : Int32) h) none)))
      (some (none, h)) := (evs_xpd _ tx_Throng_passStep [3, 47, 59, 68, 144] 100 _).trans rfl
set_option maxRecDepth 100000 in
theorem e_Throng_passStep_47 (d : Nat) (r_0 : Nat) (r_1 : Nat) (x_2 : Int32) (x_3 : Int32) (x_4 : Int32) (x_5 : Int32) (x_6 : Int32) (x_7 : Int32) (h : Hp) : L_Throng_passStep_47 d r_0 r_1 x_2 x_3 x_4 x_5 x_6 x_7 h =
    ifp (x_7 < (hI h r_0 9))
      (L_Throng_passStep_59 d r_0 r_1 x_2 x_3 x_4 x_5 x_6 x_7 (0 : Int32) h)
      (L_Throng_passStep_3 d r_0 r_1 x_2 x_3 (x_4 + (1 : Int32)) h) := (evs_xpd _ tx_Throng_passStep [3, 47, 59, 68, 144] 100 _).trans rfl
set_option maxRecDepth 100000 in
theorem e_Throng_passStep_59 (d : Nat) (r_0 : Nat) (r_1 : Nat) (x_2 : Int32) (x_3 : Int32) (x_4 : Int32) (x_5 : Int32) (x_6 : Int32) (x_7 : Int32) (x_8 : Int32) (h : Hp) : L_Throng_passStep_59 d r_0 r_1 x_2 x_3 x_4 x_5 x_6 x_7 x_8 h =
    ifp (x_8 < (hI h r_0 10))
      (L_Throng_passStep_68 d r_0 r_1 x_2 x_3 x_4 x_5 x_6 x_7 x_8 h)
      (L_Throng_passStep_47 d r_0 r_1 x_2 x_3 x_4 x_5 x_6 (x_7 + (1 : Int32)) h) := (evs_xpd _ tx_Throng_passStep [3, 47, 59, 68, 144] 100 _).trans rfl
set_option maxRecDepth 100000 in
theorem e_Throng_passStep_68 (d : Nat) (r_0 : Nat) (r_1 : Nat) (x_2 : Int32) (x_3 : Int32) (x_4 : Int32) (x_5 : Int32) (x_6 : Int32) (x_7 : Int32) (x_8 : Int32) (h : Hp) : L_Throng_passStep_68 d r_0 r_1 x_2 x_3 x_4 x_5 x_6 x_7 x_8 h =
    bR (hR h r_0 2) fun r1 =>
    bV (evm d 2 [vR 0 r1, vI x_2, vI x_3, vI x_5, vI x_7, vI x_8] h) fun h2 =>
    bR (hR h2 r_0 2) fun r3 =>
    bI (evm d 81 [vR 9 r_0, vR 5 r_1, vR 0 r3] h2) fun x5 h4 =>
    ifp (x5 < 0)
      (L_Throng_passStep_59 d r_0 r_1 x_2 x_3 x_4 x_5 x_6 x_7 (x_8 + (1 : Int32)) h4)
      (bR (hR h4 r_0 6) fun r6 =>
      ifp (x5 < (nI (hN h4 r6)))
        (bR (hR h4 r_0 6) fun r7 =>
        ifp (inb x5 (hN h4 r7) = true) (
        ifp ((lg_cmp (hL h4 r7 (ix x5)) (0 : Int64)) = 0)
          (L_Throng_passStep_59 d r_0 r_1 x_2 x_3 x_4 x_5 x_6 x_7 (x_8 + (1 : Int32)) h4)
          (ifp (x_6 = 0)
            (bR (hR h4 r_0 2) fun r8 =>
            bR (hR h4 r_0 3) fun r9 =>
            bV (evm d 8 [vR 0 r8, vR 5 r_1, vR 20 r9] h4) fun h10 =>
            L_Throng_passStep_144 d r_0 r_1 x_2 x_3 x_4 x_5 (1 : Int32) x_7 x_8 x5 h10)
            (L_Throng_passStep_144 d r_0 r_1 x_2 x_3 x_4 x_5 x_6 x_7 x_8 x5 h4))) none)
        (L_Throng_passStep_59 d r_0 r_1 x_2 x_3 x_4 x_5 x_6 x_7 (x_8 + (1 : Int32)) h4)) := (evs_xpd _ tx_Throng_passStep [3, 47, 59, 68, 144] 100 _).trans rfl
set_option maxRecDepth 100000 in
theorem e_Throng_passStep_144 (d : Nat) (r_0 : Nat) (r_1 : Nat) (x_2 : Int32) (x_3 : Int32) (x_4 : Int32) (x_5 : Int32) (x_6 : Int32) (x_7 : Int32) (x_8 : Int32) (x_9 : Int32) (h : Hp) : L_Throng_passStep_144 d r_0 r_1 x_2 x_3 x_4 x_5 x_6 x_7 x_8 x_9 h =
    bR (hR h r_0 6) fun r1 =>
    ifp (inb x_9 (hN h r1) = true) (
    bR (hR h r_0 6) fun r2 =>
    ifp (inb x_9 (hN h r2) = true) (
    bV (evm d 82 [vR 9 r_0, vR 5 r_1, vL (hL h r1 (ix x_9))] (sL h r2 (ix x_9) (0 : Int64))) fun h3 =>
    L_Throng_passStep_59 d r_0 r_1 x_2 x_3 x_4 x_5 x_6 x_7 (x_8 + (1 : Int32)) h3) none) none := (evs_xpd _ tx_Throng_passStep [3, 47, 59, 68, 144] 100 _).trans rfl
set_option maxRecDepth 100000 in
theorem e_Throng_passStep (d : Nat) (r_0 : Nat) (r_1 : Nat) (x_2 : Int32) (x_3 : Int32) (h : Hp) : evm (d + 1) 80 [vR 9 r_0, vR 5 r_1, vI x_2, vI x_3] h =
    L_Throng_passStep_3 d r_0 r_1 x_2 x_3 (0 : Int32) h := (evs_xpd _ tx_Throng_passStep [3, 47, 59, 68, 144] 100 _).trans rfl
noncomputable def L_Throng_placeOf_60 (d : Nat) (r_0 : Nat) (r_2 : Nat) (xs0 : Int32) (xs1 : Int32) (h : Hp) : Option Rs := evs (evm d) tx_Throng_placeOf (60, [some (vR 9 r_0), none, some (vR 0 r_2), none], [vI xs0, vI xs1], h)
set_option maxRecDepth 100000 in
theorem e_Throng_placeOf_60 (d : Nat) (r_0 : Nat) (r_2 : Nat) (xs0 : Int32) (xs1 : Int32) (h : Hp) : L_Throng_placeOf_60 d r_0 r_2 xs0 xs1 h =
    ifp ((1 : Int32) < (hI h r_0 10))
      (some (some (vI (((xs1 + xs0) * (hI h r_0 10)) + (hI h r_2 5))), h))
      (some (some (vI (((xs1 + xs0) * (hI h r_0 10)) + (0 : Int32))), h)) := (evs_xpd _ tx_Throng_placeOf [60] 54 _).trans rfl
set_option maxRecDepth 100000 in
theorem e_Throng_placeOf (d : Nat) (r_0 : Nat) (r_1 : Nat) (r_2 : Nat) (h : Hp) : evm (d + 1) 81 [vR 9 r_0, vR 5 r_1, vR 0 r_2] h =
    ifp ((hI h r_2 3) < 0)
      (some (some (vI (-1 : Int32)), h))
      (ifp ((12 : Int32) < (hI h r_2 3))
        (some (some (vI (-1 : Int32)), h))
        (bR (hR h r_1 1) fun r1 =>
        ifp (inb (hI h r_2 3) (hN h r1) = true) (
        ifp ((1 : Int32) < (hI h r_0 9))
          (L_Throng_placeOf_60 d r_0 r_2 (hI h r_2 4) ((((hI h r_2 1) * (hI h r_0 8)) + (hI h r1 (ix (hI h r_2 3)))) * (hI h r_0 9)) h)
          (L_Throng_placeOf_60 d r_0 r_2 (0 : Int32) ((((hI h r_2 1) * (hI h r_0 8)) + (hI h r1 (ix (hI h r_2 3)))) * (hI h r_0 9)) h)) none)) := (evs_xpd _ tx_Throng_placeOf [60] 54 _).trans rfl
noncomputable def L_Throng_part_33 (d : Nat) (r_0 : Nat) (r_1 : Nat) (y_2 : Int64) (x_4 : Int32) (y_5 : Int64) (x_7 : Int32) (x_8 : Int32) (h : Hp) : Option Rs := evs (evm d) tx_Throng_part (33, [some (vR 9 r_0), some (vR 5 r_1), some (vL y_2), none, some (vI x_4), some (vL y_5), none, some (vI x_7), some (vI x_8)], [], h)
noncomputable def L_Throng_part_42 (d : Nat) (r_0 : Nat) (r_1 : Nat) (y_2 : Int64) (x_4 : Int32) (y_5 : Int64) (x_7 : Int32) (x_8 : Int32) (h : Hp) : Option Rs := evs (evm d) tx_Throng_part (42, [some (vR 9 r_0), some (vR 5 r_1), some (vL y_2), none, some (vI x_4), some (vL y_5), none, some (vI x_7), some (vI x_8)], [], h)
noncomputable def L_Throng_part_114 (d : Nat) (r_0 : Nat) (r_1 : Nat) (y_5 : Int64) (x_7 : Int32) (x_8 : Int32) (h : Hp) : Option Rs := evs (evm d) tx_Throng_part (114, [some (vR 9 r_0), some (vR 5 r_1), none, none, none, some (vL y_5), none, some (vI x_7), some (vI x_8)], [], h)
set_option maxRecDepth 100000 in
theorem e_Throng_part_33 (d : Nat) (r_0 : Nat) (r_1 : Nat) (y_2 : Int64) (x_4 : Int32) (y_5 : Int64) (x_7 : Int32) (x_8 : Int32) (h : Hp) : L_Throng_part_33 d r_0 r_1 y_2 x_4 y_5 x_7 x_8 h =
    ifp (x_8 < (hI h r_1 8))
      (L_Throng_part_42 d r_0 r_1 y_2 x_4 y_5 x_7 x_8 h)
      (L_Throng_part_114 d r_0 r_1 y_5 x_7 (0 : Int32) h) := (evs_xpd _ tx_Throng_part [33, 42, 114] 100 _).trans rfl
set_option maxRecDepth 100000 in
theorem e_Throng_part_42 (d : Nat) (r_0 : Nat) (r_1 : Nat) (y_2 : Int64) (x_4 : Int32) (y_5 : Int64) (x_7 : Int32) (x_8 : Int32) (h : Hp) : L_Throng_part_42 d r_0 r_1 y_2 x_4 y_5 x_7 x_8 h =
    bR (hR h r_0 5) fun r1 =>
    ifp (x_8 < (nI (hN h r1)))
      (bR (hR h r_0 5) fun r2 =>
      bR (hR h r_0 4) fun r3 =>
      ifp (inb x_8 (hN h r3) = true) (
      ifp (x_4.toInt64 = 0) none (
      ifp (inb x_8 (hN h r2) = true) (
      bR (hR (sL h r2 (ix x_8) ((y_2 * (hI h r3 (ix x_8)).toInt64) / x_4.toInt64)) r_0 5) fun r4 =>
      ifp (inb x_8 (hN (sL h r2 (ix x_8) ((y_2 * (hI h r3 (ix x_8)).toInt64) / x_4.toInt64)) r4) = true) (
      ifp (x_7 = (-1 : Int32))
        (bR (hR (sL h r2 (ix x_8) ((y_2 * (hI h r3 (ix x_8)).toInt64) / x_4.toInt64)) r_0 4) fun r5 =>
        ifp (inb x_8 (hN (sL h r2 (ix x_8) ((y_2 * (hI h r3 (ix x_8)).toInt64) / x_4.toInt64)) r5) = true) (
        ifp (0 < (hI (sL h r2 (ix x_8) ((y_2 * (hI h r3 (ix x_8)).toInt64) / x_4.toInt64)) r5 (ix x_8)))
          (L_Throng_part_33 d r_0 r_1 y_2 x_4 (y_5 - (hL (sL h r2 (ix x_8) ((y_2 * (hI h r3 (ix x_8)).toInt64) / x_4.toInt64)) r4 (ix x_8))) x_8 (x_8 + (1 : Int32)) (sL h r2 (ix x_8) ((y_2 * (hI h r3 (ix x_8)).toInt64) / x_4.toInt64)))
          (L_Throng_part_33 d r_0 r_1 y_2 x_4 (y_5 - (hL (sL h r2 (ix x_8) ((y_2 * (hI h r3 (ix x_8)).toInt64) / x_4.toInt64)) r4 (ix x_8))) x_7 (x_8 + (1 : Int32)) (sL h r2 (ix x_8) ((y_2 * (hI h r3 (ix x_8)).toInt64) / x_4.toInt64)))) none)
        (L_Throng_part_33 d r_0 r_1 y_2 x_4 (y_5 - (hL (sL h r2 (ix x_8) ((y_2 * (hI h r3 (ix x_8)).toInt64) / x_4.toInt64)) r4 (ix x_8))) x_7 (x_8 + (1 : Int32)) (sL h r2 (ix x_8) ((y_2 * (hI h r3 (ix x_8)).toInt64) / x_4.toInt64)))) none) none)) none)
      (L_Throng_part_114 d r_0 r_1 y_5 x_7 (0 : Int32) h) := (evs_xpd _ tx_Throng_part [33, 42, 114] 100 _).trans rfl
set_option maxRecDepth 100000 in
theorem e_Throng_part_114 (d : Nat) (r_0 : Nat) (r_1 : Nat) (y_5 : Int64) (x_7 : Int32) (x_8 : Int32) (h : Hp) : L_Throng_part_114 d r_0 r_1 y_5 x_7 x_8 h =
    ifp (x_8 < (hI h r_1 8))
      (bR (hR h r_0 5) fun r1 =>
      ifp (x_8 < (nI (hN h r1)))
        (bR (hR h r_1 0) fun r2 =>
        ifp (inb x_8 (hN h r2) = true) (
        ifp (x_8 = x_7)
          (bR (hR h r_0 5) fun r5 =>
          ifp (inb x_8 (hN h r5) = true) (
          bV (evm d 83 [vR 9 r_0, vR 5 r_1, vI (hI h r2 (ix x_8)), vL ((hL h r5 (ix x_8)) + y_5)] h) fun h6 =>
          L_Throng_part_114 d r_0 r_1 y_5 x_7 (x_8 + (1 : Int32)) h6) none)
          (bR (hR h r_0 5) fun r3 =>
          ifp (inb x_8 (hN h r3) = true) (
          bV (evm d 83 [vR 9 r_0, vR 5 r_1, vI (hI h r2 (ix x_8)), vL (hL h r3 (ix x_8))] h) fun h4 =>
          L_Throng_part_114 d r_0 r_1 y_5 x_7 (x_8 + (1 : Int32)) h4) none)) none)
        (some (none, h)))
      (some (none, h)) := (evs_xpd _ tx_Throng_part [33, 42, 114] 100 _).trans rfl
set_option maxRecDepth 100000 in
theorem e_Throng_part (d : Nat) (r_0 : Nat) (r_1 : Nat) (y_2 : Int64) (h : Hp) : evm (d + 1) 82 [vR 9 r_0, vR 5 r_1, vL y_2] h =
    bR (hR h r_0 2) fun r1 =>
    bR (hR h r_0 3) fun r2 =>
    bR (hR h r_0 4) fun r3 =>
    bI (evm d 9 [vR 0 r1, vR 5 r_1, vR 20 r2, vR 20 r3] h) fun x5 h4 =>
    ifp (0 < x5)
      (L_Throng_part_33 d r_0 r_1 y_2 x5 y_2 (-1 : Int32) (0 : Int32) h4)
      (some (none, h4)) := (evs_xpd _ tx_Throng_part [33, 42, 114] 100 _).trans rfl
noncomputable def L_Throng_send_92 (d : Nat) (r_0 : Nat) (r_1 : Nat) (y_3 : Int64) (x_5 : Int32) (x_6 : Int32) (x_7 : Int32) (x_8 : Int32) (x_9 : Int32) (h : Hp) : Option Rs := evs (evm d) tx_Throng_send (92, [some (vR 9 r_0), some (vR 5 r_1), none, some (vL y_3), none, some (vI x_5), some (vI x_6), some (vI x_7), some (vI x_8), some (vI x_9), none], [], h)
noncomputable def L_Throng_send_153 (d : Nat) (r_0 : Nat) (x_5 : Int32) (x_6 : Int32) (x_7 : Int32) (x_8 : Int32) (x_9 : Int32) (h : Hp) : Option Rs := evs (evm d) tx_Throng_send (153, [some (vR 9 r_0), none, none, none, none, some (vI x_5), some (vI x_6), some (vI x_7), some (vI x_8), some (vI x_9), none], [], h)
set_option maxRecDepth 100000 in
theorem e_Throng_send_92 (d : Nat) (r_0 : Nat) (r_1 : Nat) (y_3 : Int64) (x_5 : Int32) (x_6 : Int32) (x_7 : Int32) (x_8 : Int32) (x_9 : Int32) (h : Hp) : L_Throng_send_92 d r_0 r_1 y_3 x_5 x_6 x_7 x_8 x_9 h =
    bR (hR (sL h r_0 1 ((hL h r_0 1) + y_3)) r_0 2) fun r1 =>
    bI (evm d 81 [vR 9 r_0, vR 5 r_1, vR 0 r1] (sL h r_0 1 ((hL h r_0 1) + y_3))) fun x3 h2 =>
    bR (hR h2 r_0 2) fun r4 =>
    ifp ((hI h2 r4 1) < (hI h2 r_1 7))
      (ifp (x3 < 0)
        (L_Throng_send_153 d r_0 x_5 x_6 x_7 x_8 x_9 h2)
        (bR (hR h2 r_0 6) fun r5 =>
        ifp (x3 < (nI (hN h2 r5)))
          (bR (hR h2 r_0 6) fun r6 =>
          ifp (inb x3 (hN h2 r6) = true) (
          ifp (inb x3 (hN h2 r6) = true) (
          L_Throng_send_153 d r_0 x_5 x_6 x_7 x_8 x_9 (sL h2 r6 (ix x3) ((hL h2 r6 (ix x3)) + y_3))) none) none)
          (L_Throng_send_153 d r_0 x_5 x_6 x_7 x_8 x_9 h2)))
      (L_Throng_send_153 d r_0 x_5 x_6 x_7 x_8 x_9 h2) := (evs_xpd _ tx_Throng_send [92, 153] 94 _).trans rfl
set_option maxRecDepth 100000 in
theorem e_Throng_send_153 (d : Nat) (r_0 : Nat) (x_5 : Int32) (x_6 : Int32) (x_7 : Int32) (x_8 : Int32) (x_9 : Int32) (h : Hp) : L_Throng_send_153 d r_0 x_5 x_6 x_7 x_8 x_9 h =
    bR (hR h r_0 2) fun r1 =>
    bV (evm d 2 [vR 0 r1, vI x_5, vI x_6, vI x_7, vI x_8, vI x_9] h) fun h2 =>
    some (none, h2) := (evs_xpd _ tx_Throng_send [92, 153] 94 _).trans rfl
set_option maxRecDepth 100000 in
theorem e_Throng_send (d : Nat) (r_0 : Nat) (r_1 : Nat) (x_2 : Int32) (y_3 : Int64) (h : Hp) : evm (d + 1) 83 [vR 9 r_0, vR 5 r_1, vI x_2, vL y_3] h =
    ifp ((lg_cmp y_3 (0 : Int64)) = 0)
      (some (none, h))
      (bR (hR h r_0 2) fun r1 =>
      bR (hR h r_0 2) fun r2 =>
      bR (hR h r_0 2) fun r3 =>
      bR (hR h r_0 2) fun r4 =>
      bR (hR h r_0 2) fun r5 =>
      bR (hR h r_0 2) fun r6 =>
      bV (evm d 5 [vR 0 r6, vR 5 r_1, vI x_2] h) fun h7 =>
      bR (hR h7 r_0 2) fun r8 =>
      bR (hR h7 r_0 0) fun r9 =>
      ifp ((hI h7 r8 1) < (nI (hN h7 r9)))
        (bR (hR h7 r_0 0) fun r10 =>
        bR (hR h7 r_0 2) fun r11 =>
        ifp (inb (hI h7 r11 1) (hN h7 r10) = true) (
        ifp (inb (hI h7 r11 1) (hN h7 r10) = true) (
        L_Throng_send_92 d r_0 r_1 y_3 (hI h r1 1) (hI h r2 2) (hI h r3 3) (hI h r4 4) (hI h r5 5) (sL h7 r10 (ix (hI h7 r11 1)) ((hL h7 r10 (ix (hI h7 r11 1))) + y_3))) none) none)
        (L_Throng_send_92 d r_0 r_1 y_3 (hI h r1 1) (hI h r2 2) (hI h r3 3) (hI h r4 4) (hI h r5 5) h7)) := (evs_xpd _ tx_Throng_send [92, 153] 94 _).trans rfl
set_option maxRecDepth 100000 in
theorem e_Ways_new (d : Nat) (r_0 : Nat) (h : Hp) : evm (d + 1) 84 [vR 10 r_0] h =
    ifp (inb (13 : Int32) 1000000 = true) (
    alc h fun q1 =>
    ifp (inb (41 : Int32) 1000000 = true) (
    alc (sR (sN h 20 (ix (13 : Int32)) (ix (13 : Int32))) r_0 0 q1) fun q2 =>
    ifp (inb (64 : Int32) 1000000 = true) (
    alc (sR (sN (sR (sN h 20 (ix (13 : Int32)) (ix (13 : Int32))) r_0 0 q1) 20 (ix (41 : Int32)) (ix (41 : Int32))) r_0 1 q2) fun q3 =>
    some (none, sI (sR (sN (sR (sN (sR (sN h 20 (ix (13 : Int32)) (ix (13 : Int32))) r_0 0 q1) 20 (ix (41 : Int32)) (ix (41 : Int32))) r_0 1 q2) 21 (ix (64 : Int32)) (ix (64 : Int32))) r_0 2 q3) r_0 3 (-4 : Int32))) none) none) none := (evs_xpd _ tx_Ways_new [] 23 _).trans rfl
set_option maxRecDepth 100000 in
theorem e_Ways_forget (d : Nat) (r_0 : Nat) (h : Hp) : evm (d + 1) 85 [vR 10 r_0] h =
    some (none, sI h r_0 3 (-4 : Int32)) := (evs_xpd _ tx_Ways_forget [] 9 _).trans rfl
set_option maxRecDepth 100000 in
theorem e_Ways_beginAll (d : Nat) (r_0 : Nat) (r_1 : Nat) (h : Hp) : evm (d + 1) 86 [vR 10 r_0, vR 5 r_1] h =
    ifp ((hI h r_0 3) = (-1 : Int32))
      (some (none, h))
      (bV (evm d 95 [vR 10 r_0, vR 5 r_1, vI (-1 : Int32), vI (hI h r_1 13), vI (hI h r_1 14)] h) fun h1 =>
      some (none, h1)) := (evs_xpd _ tx_Ways_beginAll [] 18 _).trans rfl
set_option maxRecDepth 100000 in
theorem e_Ways_beginExactly (d : Nat) (r_0 : Nat) (r_1 : Nat) (x_2 : Int32) (h : Hp) : evm (d + 1) 87 [vR 10 r_0, vR 5 r_1, vI x_2] h =
    ifp ((hI h r_0 3) = x_2)
      (some (none, h))
      (bI (evm d 240 [vI (hI h r_1 13), vI x_2] h) fun x2 h1 =>
      bI (evm d 241 [vI (hI h1 r_1 14), vI x_2] h1) fun x4 h3 =>
      bV (evm d 95 [vR 10 r_0, vR 5 r_1, vI x_2, vI x2, vI x4] h3) fun h5 =>
      some (none, h5)) := (evs_xpd _ tx_Ways_beginExactly [] 22 _).trans rfl
set_option maxRecDepth 100000 in
theorem e_Ways_beginGame (d : Nat) (r_0 : Nat) (r_1 : Nat) (h : Hp) : evm (d + 1) 88 [vR 10 r_0, vR 5 r_1] h =
    ifp ((hI h r_0 3) = (-3 : Int32))
      (some (none, h))
      (bV (evm d 95 [vR 10 r_0, vR 5 r_1, vI (-3 : Int32), vI (0 : Int32), vI (hI h r_1 14)] h) fun h1 =>
      some (none, h1)) := (evs_xpd _ tx_Ways_beginGame [] 17 _).trans rfl
noncomputable def L_Ways_beginDusty_2 (d : Nat) (r_0 : Nat) (r_1 : Nat) (r_2 : Nat) (x_3 : Int32) (h : Hp) : Option Rs := evs (evm d) tx_Ways_beginDusty (2, [some (vR 10 r_0), some (vR 5 r_1), some (vR 20 r_2), some (vI x_3)], [], h)
noncomputable def L_Ways_beginDusty_32 (d : Nat) (r_0 : Nat) (r_1 : Nat) (h : Hp) : Option Rs := evs (evm d) tx_Ways_beginDusty (32, [some (vR 10 r_0), some (vR 5 r_1), none, none], [], h)
set_option maxRecDepth 100000 in
theorem e_Ways_beginDusty_2 (d : Nat) (r_0 : Nat) (r_1 : Nat) (r_2 : Nat) (x_3 : Int32) (h : Hp) : L_Ways_beginDusty_2 d r_0 r_1 r_2 x_3 h =
    bR (hR h r_0 1) fun r1 =>
    ifp (x_3 < (nI (hN h r1)))
      (ifp (x_3 < (nI (hN h r_2)))
        (bR (hR h r_0 1) fun r2 =>
        ifp (inb x_3 (hN h r_2) = true) (
        ifp (inb x_3 (hN h r2) = true) (
        L_Ways_beginDusty_2 d r_0 r_1 r_2 (x_3 + (1 : Int32)) (sI h r2 (ix x_3) (hI h r_2 (ix x_3)))) none) none)
        (L_Ways_beginDusty_32 d r_0 r_1 h))
      (L_Ways_beginDusty_32 d r_0 r_1 h) := (evs_xpd _ tx_Ways_beginDusty [2, 32] 34 _).trans rfl
set_option maxRecDepth 100000 in
theorem e_Ways_beginDusty_32 (d : Nat) (r_0 : Nat) (r_1 : Nat) (h : Hp) : L_Ways_beginDusty_32 d r_0 r_1 h =
    bV (evm d 95 [vR 10 r_0, vR 5 r_1, vI (-2 : Int32), vI (hI h r_1 13), vI (hI h r_1 14)] h) fun h1 =>
    some (none, h1) := (evs_xpd _ tx_Ways_beginDusty [2, 32] 34 _).trans rfl
set_option maxRecDepth 100000 in
theorem e_Ways_beginDusty (d : Nat) (r_0 : Nat) (r_1 : Nat) (r_2 : Nat) (h : Hp) : evm (d + 1) 89 [vR 10 r_0, vR 5 r_1, vR 20 r_2] h =
    L_Ways_beginDusty_2 d r_0 r_1 r_2 (0 : Int32) h := (evs_xpd _ tx_Ways_beginDusty [2, 32] 34 _).trans rfl
noncomputable def L_Ways_from_8 (d : Nat) (r_0 : Nat) (r_1 : Nat) (r_2 : Nat) (x_3 : Int32) (h : Hp) : Option Rs := evs (evm d) tx_Ways_from (8, [some (vR 10 r_0), some (vR 5 r_1), some (vR 0 r_2), some (vI x_3), none, none, none, none], [], h)
noncomputable def L_Ways_from_84 (d : Nat) (r_0 : Nat) (r_1 : Nat) (r_2 : Nat) (x_3 : Int32) (x_4 : Int32) (y_5 : Int64) (x_7 : Int32) (h : Hp) : Option Rs := evs (evm d) tx_Ways_from (84, [some (vR 10 r_0), some (vR 5 r_1), some (vR 0 r_2), some (vI x_3), some (vI x_4), some (vL y_5), none, some (vI x_7)], [], h)
set_option maxRecDepth 100000 in
theorem e_Ways_from_8 (d : Nat) (r_0 : Nat) (r_1 : Nat) (r_2 : Nat) (x_3 : Int32) (h : Hp) : L_Ways_from_8 d r_0 r_1 r_2 x_3 h =
    ifp ((hI h r_2 1) < (hI h r_1 7))
      (bI (evm d 97 [vR 10 r_0, vR 0 r_2] h) fun x2 h1 =>
      ifp (x2 < 0)
        (some (some (vL (0 : Int64)), h1))
        (bR (hR h1 r_0 2) fun r3 =>
        ifp (x2 < (nI (hN h1 r3)))
          (bR (hR h1 r_0 2) fun r4 =>
          ifp (inb x2 (hN h1 r4) = true) (
          ifp ((lg_cmp (hL h1 r4 (ix x2)) (0 : Int64)) < 0)
            (L_Ways_from_84 d r_0 r_1 r_2 x_3 x2 (0 : Int64) (0 : Int32) h1)
            (bR (hR h1 r_0 2) fun r5 =>
            ifp (inb x2 (hN h1 r5) = true) (
            some (some (vL (hL h1 r5 (ix x2))), h1)) none)) none)
          (some (some (vL (0 : Int64)), h1))))
      (bI (evm d 98 [vR 10 r_0, vR 5 r_1, vR 0 r_2] h) fun x7 h6 =>
      ifp (x7 = 0)
        (some (some (vL (0 : Int64)), h6))
        (some (some (vL (1 : Int64)), h6))) := (evs_xpd _ tx_Ways_from [8, 84] 80 _).trans rfl
set_option maxRecDepth 100000 in
theorem e_Ways_from_84 (d : Nat) (r_0 : Nat) (r_1 : Nat) (r_2 : Nat) (x_3 : Int32) (x_4 : Int32) (y_5 : Int64) (x_7 : Int32) (h : Hp) : L_Ways_from_84 d r_0 r_1 r_2 x_3 x_4 y_5 x_7 h =
    ifp (x_7 < (hI h r_1 8))
      (bR (hR h r_1 0) fun r2 =>
      ifp (inb x_7 (hN h r2) = true) (
      bL (evm d 91 [vR 10 r_0, vR 5 r_1, vR 0 r_2, vI (hI h r2 (ix x_7)), vI (x_3 + (1 : Int32))] h) fun y4 h3 =>
      L_Ways_from_84 d r_0 r_1 r_2 x_3 x_4 (y_5 + y4) (x_7 + (1 : Int32)) h3) none)
      (bR (hR h r_0 2) fun r1 =>
      ifp (inb x_4 (hN h r1) = true) (
      some (some (vL y_5), sL h r1 (ix x_4) y_5)) none) := (evs_xpd _ tx_Ways_from [8, 84] 80 _).trans rfl
set_option maxRecDepth 100000 in
theorem e_Ways_from (d : Nat) (r_0 : Nat) (r_1 : Nat) (r_2 : Nat) (x_3 : Int32) (h : Hp) : evm (d + 1) 90 [vR 10 r_0, vR 5 r_1, vR 0 r_2, vI x_3] h =
    ifp ((40 : Int32) < x_3)
      (some (some (vL (0 : Int64)), h))
      (L_Ways_from_8 d r_0 r_1 r_2 x_3 h) := (evs_xpd _ tx_Ways_from [8, 84] 80 _).trans rfl
set_option maxRecDepth 100000 in
theorem e_Ways_behind (d : Nat) (r_0 : Nat) (r_1 : Nat) (r_2 : Nat) (x_3 : Int32) (x_4 : Int32) (h : Hp) : evm (d + 1) 91 [vR 10 r_0, vR 5 r_1, vR 0 r_2, vI x_3, vI x_4] h =
    bI (evm d 99 [vR 10 r_0, vR 5 r_1, vR 0 r_2, vI x_3] h) fun x2 h1 =>
    ifp (x2 = 0)
      (some (some (vL (0 : Int64)), h1))
      (bV (evm d 5 [vR 0 r_2, vR 5 r_1, vI x_3] h1) fun h3 =>
      bL (evm d 90 [vR 10 r_0, vR 5 r_1, vR 0 r_2, vI x_4] h3) fun y5 h4 =>
      bV (evm d 6 [vR 0 r_2, vR 5 r_1] h4) fun h6 =>
      some (some (vL y5), h6)) := (evs_xpd _ tx_Ways_behind [] 28 _).trans rfl
noncomputable def L_Ways_ahead_6 (d : Nat) (r_0 : Nat) (r_1 : Nat) (r_2 : Nat) (x_3 : Int32) (y_4 : Int64) (x_6 : Int32) (h : Hp) : Option Rs := evs (evm d) tx_Ways_ahead (6, [some (vR 10 r_0), some (vR 5 r_1), some (vR 0 r_2), some (vI x_3), some (vL y_4), none, some (vI x_6)], [], h)
set_option maxRecDepth 100000 in
theorem e_Ways_ahead_6 (d : Nat) (r_0 : Nat) (r_1 : Nat) (r_2 : Nat) (x_3 : Int32) (y_4 : Int64) (x_6 : Int32) (h : Hp) : L_Ways_ahead_6 d r_0 r_1 r_2 x_3 y_4 x_6 h =
    ifp (x_6 < (hI h r_1 8))
      (bR (hR h r_1 0) fun r1 =>
      ifp (inb x_6 (hN h r1) = true) (
      ifp ((hI h r1 (ix x_6)) < x_3)
        (bR (hR h r_1 0) fun r2 =>
        ifp (inb x_6 (hN h r2) = true) (
        bL (evm d 91 [vR 10 r_0, vR 5 r_1, vR 0 r_2, vI (hI h r2 (ix x_6)), vI (0 : Int32)] h) fun y4 h3 =>
        L_Ways_ahead_6 d r_0 r_1 r_2 x_3 (y_4 + y4) (x_6 + (1 : Int32)) h3) none)
        (some (some (vL y_4), h))) none)
      (some (some (vL y_4), h)) := (evs_xpd _ tx_Ways_ahead [6] 35 _).trans rfl
set_option maxRecDepth 100000 in
theorem e_Ways_ahead (d : Nat) (r_0 : Nat) (r_1 : Nat) (r_2 : Nat) (x_3 : Int32) (h : Hp) : evm (d + 1) 92 [vR 10 r_0, vR 5 r_1, vR 0 r_2, vI x_3] h =
    L_Ways_ahead_6 d r_0 r_1 r_2 x_3 (0 : Int64) (0 : Int32) h := (evs_xpd _ tx_Ways_ahead [6] 35 _).trans rfl
noncomputable def L_Ways_strideAt_6 (d : Nat) (r_0 : Nat) (r_1 : Nat) (r_2 : Nat) (x_5 : Int32) (y_6 : Int64) (x_8 : Int32) (h : Hp) : Option Rs := evs (evm d) tx_Ways_strideAt (6, [some (vR 10 r_0), some (vR 5 r_1), some (vR 0 r_2), none, none, some (vI x_5), some (vL y_6), none, some (vI x_8), none, none, none, none], [], h)
noncomputable def L_Ways_strideAt_37 (d : Nat) (r_0 : Nat) (r_1 : Nat) (r_2 : Nat) (x_5 : Int32) (y_6 : Int64) (x_8 : Int32) (x_9 : Int32) (x_10 : Int32) (h : Hp) : Option Rs := evs (evm d) tx_Ways_strideAt (37, [some (vR 10 r_0), some (vR 5 r_1), some (vR 0 r_2), none, none, some (vI x_5), some (vL y_6), none, some (vI x_8), some (vI x_9), some (vI x_10), none, none], [], h)
noncomputable def L_Ways_strideAt_101 (d : Nat) (r_0 : Nat) (r_1 : Nat) (r_2 : Nat) (x_5 : Int32) (y_6 : Int64) (x_8 : Int32) (x_9 : Int32) (h : Hp) : Option Rs := evs (evm d) tx_Ways_strideAt (101, [some (vR 10 r_0), some (vR 5 r_1), some (vR 0 r_2), none, none, some (vI x_5), some (vL y_6), none, some (vI x_8), some (vI x_9), none, none, none], [], h)
set_option maxRecDepth 100000 in
theorem e_Ways_strideAt_6 (d : Nat) (r_0 : Nat) (r_1 : Nat) (r_2 : Nat) (x_5 : Int32) (y_6 : Int64) (x_8 : Int32) (h : Hp) : L_Ways_strideAt_6 d r_0 r_1 r_2 x_5 y_6 x_8 h =
    ifp (x_5 < x_8)
      (some (some (vI (-1 : Int32)), h))
      (ifp (x_8 < (40 : Int32))
        (ifp ((hI h r_2 1) < (hI h r_1 7))
          (L_Ways_strideAt_37 d r_0 r_1 r_2 x_5 y_6 x_8 (-1 : Int32) (0 : Int32) h)
          (some (some (vI (-1 : Int32)), h)))
        (some (some (vI (-1 : Int32)), h))) := (evs_xpd _ tx_Ways_strideAt [6, 37, 101] 73 _).trans rfl
set_option maxRecDepth 100000 in
theorem e_Ways_strideAt_37 (d : Nat) (r_0 : Nat) (r_1 : Nat) (r_2 : Nat) (x_5 : Int32) (y_6 : Int64) (x_8 : Int32) (x_9 : Int32) (x_10 : Int32) (h : Hp) : L_Ways_strideAt_37 d r_0 r_1 r_2 x_5 y_6 x_8 x_9 x_10 h =
    ifp (x_10 < (hI h r_1 8))
      (ifp (x_9 = (-1 : Int32))
        (bR (hR h r_1 0) fun r1 =>
        ifp (inb x_10 (hN h r1) = true) (
        bL (evm d 91 [vR 10 r_0, vR 5 r_1, vR 0 r_2, vI (hI h r1 (ix x_10)), vI (0 : Int32)] h) fun y3 h2 =>
        ifp ((lg_cmp y_6 y3) < 0)
          (bR (hR h2 r_1 0) fun r4 =>
          ifp (inb x_10 (hN h2 r4) = true) (
          L_Ways_strideAt_37 d r_0 r_1 r_2 x_5 y_6 x_8 (hI h2 r4 (ix x_10)) (x_10 + (1 : Int32)) h2) none)
          (L_Ways_strideAt_37 d r_0 r_1 r_2 x_5 (y_6 - y3) x_8 x_9 (x_10 + (1 : Int32)) h2)) none)
        (L_Ways_strideAt_101 d r_0 r_1 r_2 x_5 y_6 x_8 x_9 h))
      (L_Ways_strideAt_101 d r_0 r_1 r_2 x_5 y_6 x_8 x_9 h) := (evs_xpd _ tx_Ways_strideAt [6, 37, 101] 73 _).trans rfl
set_option maxRecDepth 100000 in
theorem e_Ways_strideAt_101 (d : Nat) (r_0 : Nat) (r_1 : Nat) (r_2 : Nat) (x_5 : Int32) (y_6 : Int64) (x_8 : Int32) (x_9 : Int32) (h : Hp) : L_Ways_strideAt_101 d r_0 r_1 r_2 x_5 y_6 x_8 x_9 h =
    ifp (x_8 = x_5)
      (some (some (vI x_9), h))
      (ifp (x_9 = (-1 : Int32))
        (some (some (vI x_9), h))
        (bV (evm d 5 [vR 0 r_2, vR 5 r_1, vI x_9] h) fun h1 =>
        L_Ways_strideAt_6 d r_0 r_1 r_2 x_5 y_6 (x_8 + (1 : Int32)) h1)) := (evs_xpd _ tx_Ways_strideAt [6, 37, 101] 73 _).trans rfl
set_option maxRecDepth 100000 in
theorem e_Ways_strideAt (d : Nat) (r_0 : Nat) (r_1 : Nat) (r_2 : Nat) (y_3 : Int64) (x_5 : Int32) (h : Hp) : evm (d + 1) 93 [vR 10 r_0, vR 5 r_1, vR 0 r_2, vL y_3, vI x_5] h =
    L_Ways_strideAt_6 d r_0 r_1 r_2 x_5 y_3 (0 : Int32) h := (evs_xpd _ tx_Ways_strideAt [6, 37, 101] 73 _).trans rfl
noncomputable def L_Ways_winning_59 (d : Nat) (r_0 : Nat) (r_1 : Nat) (r_2 : Nat) (x_3 : Int32) (x_4 : Int32) (x_5 : Int32) (x_6 : Int32) (h : Hp) : Option Rs := evs (evm d) tx_Ways_winning (59, [some (vR 10 r_0), some (vR 5 r_1), some (vR 0 r_2), some (vI x_3), some (vI x_4), some (vI x_5), some (vI x_6), none], [], h)
noncomputable def L_Ways_winning_122 (d : Nat) (r_0 : Nat) (r_1 : Nat) (r_2 : Nat) (x_3 : Int32) (x_4 : Int32) (x_6 : Int32) (x_7 : Int32) (h : Hp) : Option Rs := evs (evm d) tx_Ways_winning (122, [some (vR 10 r_0), some (vR 5 r_1), some (vR 0 r_2), some (vI x_3), some (vI x_4), none, some (vI x_6), some (vI x_7)], [], h)
noncomputable def L_Ways_winning_141 (d : Nat) (r_0 : Nat) (x_4 : Int32) (x_5 : Int32) (h : Hp) : Option Rs := evs (evm d) tx_Ways_winning (141, [some (vR 10 r_0), none, none, none, some (vI x_4), some (vI x_5), none, none], [], h)
set_option maxRecDepth 100000 in
theorem e_Ways_winning_59 (d : Nat) (r_0 : Nat) (r_1 : Nat) (r_2 : Nat) (x_3 : Int32) (x_4 : Int32) (x_5 : Int32) (x_6 : Int32) (h : Hp) : L_Ways_winning_59 d r_0 r_1 r_2 x_3 x_4 x_5 x_6 h =
    ifp (x_6 < (hI h r_1 8))
      (ifp (x_5 = 0)
        (bR (hR h r_1 0) fun r1 =>
        ifp (inb x_6 (hN h r1) = true) (
        bI (evm d 4 [vR 0 r_2, vR 5 r_1, vI (hI h r1 (ix x_6))] h) fun x3 h2 =>
        ifp (x3 = 0)
          (L_Ways_winning_59 d r_0 r_1 r_2 x_3 x_4 x_5 (x_6 + (1 : Int32)) h2)
          (bV (evm d 5 [vR 0 r_2, vR 5 r_1, vI (hI h r1 (ix x_6))] h2) fun h4 =>
          ifp ((hI h4 r_2 1) < (hI h4 r_1 7))
            (bI (evm d 94 [vR 10 r_0, vR 5 r_1, vR 0 r_2, vI (x_3 + (1 : Int32))] h4) fun x6 h5 =>
            ifp (x6 = 0)
              (L_Ways_winning_122 d r_0 r_1 r_2 x_3 x_4 x_6 (hI h r1 (ix x_6)) h5)
              (bV (evm d 6 [vR 0 r_2, vR 5 r_1] h5) fun h7 =>
              L_Ways_winning_59 d r_0 r_1 r_2 x_3 x_4 (0 : Int32) (x_6 + (1 : Int32)) h7))
            (L_Ways_winning_122 d r_0 r_1 r_2 x_3 x_4 x_6 (hI h r1 (ix x_6)) h4))) none)
        (L_Ways_winning_141 d r_0 x_4 x_5 h))
      (L_Ways_winning_141 d r_0 x_4 x_5 h) := (evs_xpd _ tx_Ways_winning [59, 122, 141] 90 _).trans rfl
set_option maxRecDepth 100000 in
theorem e_Ways_winning_122 (d : Nat) (r_0 : Nat) (r_1 : Nat) (r_2 : Nat) (x_3 : Int32) (x_4 : Int32) (x_6 : Int32) (x_7 : Int32) (h : Hp) : L_Ways_winning_122 d r_0 r_1 r_2 x_3 x_4 x_6 x_7 h =
    bV (evm d 6 [vR 0 r_2, vR 5 r_1] h) fun h1 =>
    L_Ways_winning_59 d r_0 r_1 r_2 x_3 x_4 x_7 (x_6 + (1 : Int32)) h1 := (evs_xpd _ tx_Ways_winning [59, 122, 141] 90 _).trans rfl
set_option maxRecDepth 100000 in
theorem e_Ways_winning_141 (d : Nat) (r_0 : Nat) (x_4 : Int32) (x_5 : Int32) (h : Hp) : L_Ways_winning_141 d r_0 x_4 x_5 h =
    bR (hR h r_0 2) fun r1 =>
    ifp (inb x_4 (hN h r1) = true) (
    some (some (vI x_5), sL h r1 (ix x_4) x_5.toInt64)) none := (evs_xpd _ tx_Ways_winning [59, 122, 141] 90 _).trans rfl
set_option maxRecDepth 100000 in
theorem e_Ways_winning (d : Nat) (r_0 : Nat) (r_1 : Nat) (r_2 : Nat) (x_3 : Int32) (h : Hp) : evm (d + 1) 94 [vR 10 r_0, vR 5 r_1, vR 0 r_2, vI x_3] h =
    ifp ((40 : Int32) < x_3)
      (some (some (vI (0 : Int32)), h))
      (bI (evm d 97 [vR 10 r_0, vR 0 r_2] h) fun x2 h1 =>
      ifp (x2 < 0)
        (some (some (vI (0 : Int32)), h1))
        (bR (hR h1 r_0 2) fun r3 =>
        ifp (x2 < (nI (hN h1 r3)))
          (bR (hR h1 r_0 2) fun r4 =>
          ifp (inb x2 (hN h1 r4) = true) (
          ifp ((lg_cmp (hL h1 r4 (ix x2)) (0 : Int64)) < 0)
            (L_Ways_winning_59 d r_0 r_1 r_2 x_3 x2 (0 : Int32) (0 : Int32) h1)
            (bR (hR h1 r_0 2) fun r5 =>
            ifp (inb x2 (hN h1 r5) = true) (
            some (some (vI ((hL h1 r5 (ix x2)).toInt32)), h1)) none)) none)
          (some (some (vI (0 : Int32)), h1)))) := (evs_xpd _ tx_Ways_winning [59, 122, 141] 90 _).trans rfl
noncomputable def L_Ways_begin_41 (d : Nat) (r_0 : Nat) (r_1 : Nat) (x_2 : Int32) (xs0 : Int32) (rs1 : Nat) (h : Hp) : Option Rs := evs (evm d) tx_Ways_begin (41, [some (vR 10 r_0), some (vR 5 r_1), some (vI x_2), none, none, none, none, none], [vI xs0, vR 10 rs1], h)
noncomputable def L_Ways_begin_64 (d : Nat) (r_0 : Nat) (r_1 : Nat) (xs0 : Int32) (rs1 : Nat) (h : Hp) : Option Rs := evs (evm d) tx_Ways_begin (64, [some (vR 10 r_0), some (vR 5 r_1), none, none, none, none, none, none], [vI xs0, vR 10 rs1], h)
noncomputable def L_Ways_begin_131 (d : Nat) (r_0 : Nat) (xs0 : Int32) (h : Hp) : Option Rs := evs (evm d) tx_Ways_begin (131, [some (vR 10 r_0), none, none, none, none, none, none, none], [vI xs0], h)
noncomputable def L_Ways_begin_195 (d : Nat) (r_0 : Nat) (x_6 : Int32) (x_7 : Int32) (h : Hp) : Option Rs := evs (evm d) tx_Ways_begin (195, [some (vR 10 r_0), none, none, none, none, none, some (vI x_6), some (vI x_7)], [], h)
set_option maxRecDepth 100000 in
theorem e_Ways_begin_41 (d : Nat) (r_0 : Nat) (r_1 : Nat) (x_2 : Int32) (xs0 : Int32) (rs1 : Nat) (h : Hp) : L_Ways_begin_41 d r_0 r_1 x_2 xs0 rs1 h =
    bif isB xs0 then
    ifp ((hI (sI h rs1 6 xs0) r_1 12) = (-1 : Int32))
      (L_Ways_begin_64 d r_0 r_1 (0 : Int32) r_0 (sI h rs1 6 xs0))
      (ifp (x_2 = (-3 : Int32))
        (L_Ways_begin_64 d r_0 r_1 (0 : Int32) r_0 (sI h rs1 6 xs0))
        (L_Ways_begin_64 d r_0 r_1 (1 : Int32) r_0 (sI h rs1 6 xs0)))
    else none := (evs_xpd _ tx_Ways_begin [41, 64, 131, 195] 124 _).trans rfl
set_option maxRecDepth 100000 in
theorem e_Ways_begin_64 (d : Nat) (r_0 : Nat) (r_1 : Nat) (xs0 : Int32) (rs1 : Nat) (h : Hp) : L_Ways_begin_64 d r_0 r_1 xs0 rs1 h =
    bif isB xs0 then
    bI (evm d 33 [vR 5 r_1] (sI h rs1 7 xs0)) fun x2 h1 =>
    bI (evm d 34 [vR 5 r_1] (sI h1 r_0 9 x2)) fun x4 h3 =>
    bV (evm d 96 [vR 10 r_0, vR 5 r_1] (sI h3 r_0 10 x4)) fun h5 =>
    ifp ((hI h5 r_0 6) = 0)
      (ifp ((hI h5 r_0 7) = 0)
        (L_Ways_begin_131 d r_0 (hI h5 r_1 7) h5)
        (L_Ways_begin_131 d r_0 ((2 : Int32) * (hI h5 r_1 7)) h5))
      (ifp ((2 : Int32) = 0) none (
      L_Ways_begin_131 d r_0 (((hI h5 r_1 7) * ((hI h5 r_1 7) + (1 : Int32))) / (2 : Int32)) h5))
    else none := (evs_xpd _ tx_Ways_begin [41, 64, 131, 195] 124 _).trans rfl
set_option maxRecDepth 100000 in
theorem e_Ways_begin_131 (d : Nat) (r_0 : Nat) (xs0 : Int32) (h : Hp) : L_Ways_begin_131 d r_0 xs0 h =
    bR (hR h r_0 2) fun r1 =>
    ifp ((nI (hN h r1)) < (((xs0 * (hI h r_0 8)) * (hI h r_0 9)) * (hI h r_0 10)))
      (ifp ((143500 : Int32) < (((xs0 * (hI h r_0 8)) * (hI h r_0 9)) * (hI h r_0 10)))
        (L_Ways_begin_195 d r_0 (((xs0 * (hI h r_0 8)) * (hI h r_0 9)) * (hI h r_0 10)) (0 : Int32) h)
        (bR (hR h r_0 2) fun r2 =>
        bI (evm d 241 [vI ((2 : Int32) * (nI (hN h r2))), vI (143500 : Int32)] h) fun x4 h3 =>
        bI (evm d 240 [vI (((xs0 * (hI h r_0 8)) * (hI h r_0 9)) * (hI h r_0 10)), vI x4] h3) fun x6 h5 =>
        ifp (inb x6 1000000 = true) (
        alc h5 fun q7 =>
        L_Ways_begin_195 d r_0 (((xs0 * (hI h r_0 8)) * (hI h r_0 9)) * (hI h r_0 10)) (0 : Int32) (sR (sN h5 21 (ix x6) (ix x6)) r_0 2 q7)) none))
      (L_Ways_begin_195 d r_0 (((xs0 * (hI h r_0 8)) * (hI h r_0 9)) * (hI h r_0 10)) (0 : Int32) h) := (evs_xpd _ tx_Ways_begin [41, 64, 131, 195] 124 _).trans rfl
set_option maxRecDepth 100000 in
theorem e_Ways_begin_195 (d : Nat) (r_0 : Nat) (x_6 : Int32) (x_7 : Int32) (h : Hp) : L_Ways_begin_195 d r_0 x_6 x_7 h =
    ifp (x_7 < x_6)
      (bR (hR h r_0 2) fun r1 =>
      ifp (x_7 < (nI (hN h r1)))
        (bR (hR h r_0 2) fun r2 =>
        ifp (inb x_7 (hN h r2) = true) (
        L_Ways_begin_195 d r_0 x_6 (x_7 + (1 : Int32)) (sL h r2 (ix x_7) (-1 : Int64))) none)
        (some (none, h)))
      (some (none, h)) := (evs_xpd _ tx_Ways_begin [41, 64, 131, 195] 124 _).trans rfl
set_option maxRecDepth 100000 in
theorem e_Ways_begin (d : Nat) (r_0 : Nat) (r_1 : Nat) (x_2 : Int32) (x_3 : Int32) (x_4 : Int32) (h : Hp) : evm (d + 1) 95 [vR 10 r_0, vR 5 r_1, vI x_2, vI x_3, vI x_4] h =
    ifp ((1 : Int32) < (hI (sI (sI (sI h r_0 3 x_2) r_0 4 x_3) r_0 5 x_4) r_0 4))
      (L_Ways_begin_41 d r_0 r_1 x_2 (1 : Int32) r_0 (sI (sI (sI h r_0 3 x_2) r_0 4 x_3) r_0 5 x_4))
      (ifp ((hI (sI (sI (sI h r_0 3 x_2) r_0 4 x_3) r_0 5 x_4) r_0 5) < (hI (sI (sI (sI h r_0 3 x_2) r_0 4 x_3) r_0 5 x_4) r_1 7))
        (L_Ways_begin_41 d r_0 r_1 x_2 (1 : Int32) r_0 (sI (sI (sI h r_0 3 x_2) r_0 4 x_3) r_0 5 x_4))
        (L_Ways_begin_41 d r_0 r_1 x_2 (0 : Int32) r_0 (sI (sI (sI h r_0 3 x_2) r_0 4 x_3) r_0 5 x_4))) := (evs_xpd _ tx_Ways_begin [41, 64, 131, 195] 124 _).trans rfl
noncomputable def L_Ways_findLastKinds_7 (d : Nat) (r_0 : Nat) (r_1 : Nat) (x_2 : Int32) (h : Hp) : Option Rs := evs (evm d) tx_Ways_findLastKinds (7, [some (vR 10 r_0), some (vR 5 r_1), some (vI x_2)], [], h)
set_option maxRecDepth 100000 in
theorem e_Ways_findLastKinds_7 (d : Nat) (r_0 : Nat) (r_1 : Nat) (x_2 : Int32) (h : Hp) : L_Ways_findLastKinds_7 d r_0 r_1 x_2 h =
    ifp ((12 : Int32) < x_2)
      (some (none, h))
      (bR (hR h r_0 0) fun r1 =>
      ifp (inb x_2 (hN h r1) = true) (
      bI (evm d 28 [vR 5 r_1, vI x_2] (sI h r1 (ix x_2) (0 : Int32))) fun x3 h2 =>
      ifp (x3 = 0)
        (L_Ways_findLastKinds_7 d r_0 r_1 (x_2 + (1 : Int32)) h2)
        (bR (hR h2 r_1 3) fun r4 =>
        ifp (inb x_2 (hN h2 r4) = true) (
        ifp (((hI h2 r4 (ix x_2)) &&& (hI h2 r_1 9)) = 0)
          (L_Ways_findLastKinds_7 d r_0 r_1 (x_2 + (1 : Int32)) h2)
          (bR (hR h2 r_0 0) fun r5 =>
          ifp (inb x_2 (hN h2 r5) = true) (
          L_Ways_findLastKinds_7 d r_0 r_1 (x_2 + (1 : Int32)) (sI (sI h2 r5 (ix x_2) (hI h2 r_0 8)) r_0 8 ((hI (sI h2 r5 (ix x_2) (hI h2 r_0 8)) r_0 8) + (1 : Int32)))) none)) none)) none) := (evs_xpd _ tx_Ways_findLastKinds [7] 45 _).trans rfl
set_option maxRecDepth 100000 in
theorem e_Ways_findLastKinds (d : Nat) (r_0 : Nat) (r_1 : Nat) (h : Hp) : evm (d + 1) 96 [vR 10 r_0, vR 5 r_1] h =
    L_Ways_findLastKinds_7 d r_0 r_1 (0 : Int32) (sI h r_0 8 (1 : Int32)) := (evs_xpd _ tx_Ways_findLastKinds [7] 45 _).trans rfl
noncomputable def L_Ways_placeOf_73 (d : Nat) (r_0 : Nat) (r_1 : Nat) (x_2 : Int32) (h : Hp) : Option Rs := evs (evm d) tx_Ways_placeOf (73, [some (vR 10 r_0), some (vR 0 r_1), some (vI x_2)], [], h)
noncomputable def L_Ways_placeOf_112 (d : Nat) (r_0 : Nat) (r_1 : Nat) (xs0 : Int32) (xs1 : Int32) (h : Hp) : Option Rs := evs (evm d) tx_Ways_placeOf (112, [some (vR 10 r_0), some (vR 0 r_1), none], [vI xs0, vI xs1], h)
set_option maxRecDepth 100000 in
theorem e_Ways_placeOf_73 (d : Nat) (r_0 : Nat) (r_1 : Nat) (x_2 : Int32) (h : Hp) : L_Ways_placeOf_73 d r_0 r_1 x_2 h =
    bR (hR h r_0 0) fun r1 =>
    ifp (inb (hI h r_1 3) (hN h r1) = true) (
    ifp ((1 : Int32) < (hI h r_0 9))
      (L_Ways_placeOf_112 d r_0 r_1 (hI h r_1 4) (((x_2 * (hI h r_0 8)) + (hI h r1 (ix (hI h r_1 3)))) * (hI h r_0 9)) h)
      (L_Ways_placeOf_112 d r_0 r_1 (0 : Int32) (((x_2 * (hI h r_0 8)) + (hI h r1 (ix (hI h r_1 3)))) * (hI h r_0 9)) h)) none := (evs_xpd _ tx_Ways_placeOf [73, 112] 86 _).trans rfl
set_option maxRecDepth 100000 in
theorem e_Ways_placeOf_112 (d : Nat) (r_0 : Nat) (r_1 : Nat) (xs0 : Int32) (xs1 : Int32) (h : Hp) : L_Ways_placeOf_112 d r_0 r_1 xs0 xs1 h =
    ifp ((1 : Int32) < (hI h r_0 10))
      (some (some (vI (((xs1 + xs0) * (hI h r_0 10)) + (hI h r_1 5))), h))
      (some (some (vI (((xs1 + xs0) * (hI h r_0 10)) + (0 : Int32))), h)) := (evs_xpd _ tx_Ways_placeOf [73, 112] 86 _).trans rfl
set_option maxRecDepth 100000 in
theorem e_Ways_placeOf (d : Nat) (r_0 : Nat) (r_1 : Nat) (h : Hp) : evm (d + 1) 97 [vR 10 r_0, vR 0 r_1] h =
    ifp ((hI h r_1 3) < 0)
      (some (some (vI (-1 : Int32)), h))
      (ifp ((12 : Int32) < (hI h r_1 3))
        (some (some (vI (-1 : Int32)), h))
        (ifp ((hI h r_0 6) = 0)
          (ifp ((hI h r_0 7) = 0)
            (L_Ways_placeOf_73 d r_0 r_1 (hI h r_1 1) h)
            (L_Ways_placeOf_73 d r_0 r_1 (((2 : Int32) * (hI h r_1 1)) + ((hI h r_1 2) &&& (1 : Int32))) h))
          (ifp ((2 : Int32) = 0) none (
          L_Ways_placeOf_73 d r_0 r_1 ((((hI h r_1 1) * ((hI h r_1 1) + (1 : Int32))) / (2 : Int32)) + (hI h r_1 2)) h)))) := (evs_xpd _ tx_Ways_placeOf [73, 112] 86 _).trans rfl
set_option maxRecDepth 100000 in
theorem e_Ways_isEnd (d : Nat) (r_0 : Nat) (r_1 : Nat) (r_2 : Nat) (h : Hp) : evm (d + 1) 98 [vR 10 r_0, vR 5 r_1, vR 0 r_2] h =
    ifp ((hI h r_2 2) < (hI h r_0 4))
      (some (some (vI (0 : Int32)), h))
      (ifp ((hI h r_0 5) < (hI h r_2 2))
        (some (some (vI (0 : Int32)), h))
        (bI (evm d 31 [vR 5 r_1, vI (hI h r_2 2)] h) fun x2 h1 =>
        ifp (x2 = 0)
          (some (some (vI (0 : Int32)), h1))
          (some (some (vI (1 : Int32)), h1)))) := (evs_xpd _ tx_Ways_isEnd [] 24 _).trans rfl
set_option maxRecDepth 100000 in
theorem e_Ways_isOpen (d : Nat) (r_0 : Nat) (r_1 : Nat) (r_2 : Nat) (x_3 : Int32) (h : Hp) : evm (d + 1) 99 [vR 10 r_0, vR 5 r_1, vR 0 r_2, vI x_3] h =
    ifp ((hI h r_2 2) < (hI h r_0 5))
      (bI (evm d 4 [vR 0 r_2, vR 5 r_1, vI x_3] h) fun x2 h1 =>
      ifp (x2 = 0)
        (some (some (vI (0 : Int32)), h1))
        (ifp ((hI h1 r_0 3) = (-2 : Int32))
          (bI (evm d 100 [vR 10 r_0, vI (hI h1 r_2 1), vI ((hI h1 r_2 1) + x_3)] h1) fun x4 h3 =>
          ifp (x4 = 0)
            (some (some (vI (0 : Int32)), h3))
            (some (some (vI (1 : Int32)), h3)))
          (some (some (vI (1 : Int32)), h1))))
      (some (some (vI (0 : Int32)), h)) := (evs_xpd _ tx_Ways_isOpen [] 34 _).trans rfl
noncomputable def L_Ways_agreesWithDust_29 (d : Nat) (r_0 : Nat) (x_2 : Int32) (x_3 : Int32) (h : Hp) : Option Rs := evs (evm d) tx_Ways_agreesWithDust (29, [some (vR 10 r_0), none, some (vI x_2), some (vI x_3)], [], h)
set_option maxRecDepth 100000 in
theorem e_Ways_agreesWithDust_29 (d : Nat) (r_0 : Nat) (x_2 : Int32) (x_3 : Int32) (h : Hp) : L_Ways_agreesWithDust_29 d r_0 x_2 x_3 h =
    ifp (x_3 < x_2)
      (bR (hR h r_0 1) fun r1 =>
      ifp (inb x_3 (hN h r1) = true) (
      ifp ((hI h r1 (ix x_3)) = (1 : Int32))
        (some (some (vI (0 : Int32)), h))
        (L_Ways_agreesWithDust_29 d r_0 x_2 (x_3 + (1 : Int32)) h)) none)
      (some (some (vI (1 : Int32)), h)) := (evs_xpd _ tx_Ways_agreesWithDust [29] 39 _).trans rfl
set_option maxRecDepth 100000 in
theorem e_Ways_agreesWithDust (d : Nat) (r_0 : Nat) (x_1 : Int32) (x_2 : Int32) (h : Hp) : evm (d + 1) 100 [vR 10 r_0, vI x_1, vI x_2] h =
    ifp (x_1 < 0)
      (some (some (vI (0 : Int32)), h))
      (bR (hR h r_0 1) fun r1 =>
      ifp (x_2 < (nI (hN h r1)))
        (bR (hR h r_0 1) fun r2 =>
        ifp (inb x_2 (hN h r2) = true) (
        ifp ((hI h r2 (ix x_2)) = (2 : Int32))
          (some (some (vI (0 : Int32)), h))
          (L_Ways_agreesWithDust_29 d r_0 x_2 (x_1 + (1 : Int32)) h)) none)
        (some (some (vI (0 : Int32)), h))) := (evs_xpd _ tx_Ways_agreesWithDust [29] 39 _).trans rfl
end
section
noncomputable def L_X_new_102 (d : Nat) (r_0 : Nat) (x_1 : Int32) (h : Hp) : Option Rs := evs (evm d) tx_X_new (102, [some (vR 11 r_0), some (vI x_1)], [], h)
set_option maxRecDepth 100000 in
theorem e_X_new_102 (d : Nat) (r_0 : Nat) (x_1 : Int32) (h : Hp) : L_X_new_102 d r_0 x_1 h =
    ifp (x_1 < (4 : Int32))
      (bR (hR h r_0 8) fun r11 =>
      alc h fun q12 =>
      bV (evm d 10 [vR 1 q12] (sN h 1 0 3)) fun h13 =>
      ifp (inb x_1 (hN h13 r11) = true) (
      L_X_new_102 d r_0 (x_1 + (1 : Int32)) (sR h13 r11 (ix x_1) q12)) none)
      (ifp (inb (41 : Int32) 1000000 = true) (
      alc h fun q1 =>
      ifp (inb (6 : Int32) 1000000 = true) (
      alc (sR (sN h 20 (ix (41 : Int32)) (ix (41 : Int32))) r_0 9 q1) fun q2 =>
      alc (sR (sN (sR (sN h 20 (ix (41 : Int32)) (ix (41 : Int32))) r_0 9 q1) 20 (ix (6 : Int32)) (ix (6 : Int32))) r_0 10 q2) fun q3 =>
      bV (evm d 24 [vR 5 q3] (sN (sR (sN (sR (sN h 20 (ix (41 : Int32)) (ix (41 : Int32))) r_0 9 q1) 20 (ix (6 : Int32)) (ix (6 : Int32))) r_0 10 q2) 5 0 17)) fun h4 =>
      alc (sR h4 r_0 11 q3) fun q5 =>
      bV (evm d 24 [vR 5 q5] (sN (sR h4 r_0 11 q3) 5 0 17)) fun h6 =>
      bR (hR (sR h6 r_0 12 q5) r_0 11) fun r7 =>
      bV (evm d 25 [vR 5 r7] (sR h6 r_0 12 q5)) fun h8 =>
      bR (hR h8 r_0 11) fun r9 =>
      bV (evm d 26 [vR 5 r9] h8) fun h10 =>
      some (none, h10)) none) none) := (evs_xpd _ tx_X_new [102] 90 _).trans rfl
set_option maxRecDepth 100000 in
theorem e_X_new (d : Nat) (r_0 : Nat) (h : Hp) : evm (d + 1) 101 [vR 11 r_0] h =
    alc h fun q1 =>
    bV (evm d 38 [vR 6 q1] (sN h 6 0 4)) fun h2 =>
    alc (sR h2 r_0 0 q1) fun q3 =>
    bV (evm d 0 [vR 0 q3] (sN (sR h2 r_0 0 q1) 0 0 6)) fun h4 =>
    alc (sR h4 r_0 1 q3) fun q5 =>
    bV (evm d 0 [vR 0 q5] (sN (sR h4 r_0 1 q3) 0 0 6)) fun h6 =>
    alc (sR h6 r_0 2 q5) fun q7 =>
    bV (evm d 84 [vR 10 q7] (sN (sR h6 r_0 2 q5) 10 0 11)) fun h8 =>
    alc (sR h8 r_0 3 q7) fun q9 =>
    bV (evm d 76 [vR 9 q9] (sN (sR h8 r_0 3 q7) 9 0 11)) fun h10 =>
    alc (sR h10 r_0 4 q9) fun q11 =>
    bV (evm d 61 [vR 7 q11] (sN (sR h10 r_0 4 q9) 7 0 3)) fun h12 =>
    alc (sR h12 r_0 5 q11) fun q13 =>
    bV (evm d 16 [vR 3 q13] (sN (sR h12 r_0 5 q11) 3 0 1)) fun h14 =>
    alc (sR h14 r_0 6 q13) fun q15 =>
    bV (evm d 20 [vR 4 q15] (sN (sR h14 r_0 6 q13) 4 0 3)) fun h16 =>
    ifp (inb (4 : Int32) 1000000 = true) (
    alc (sR h16 r_0 7 q15) fun q17 =>
    L_X_new_102 d r_0 (0 : Int32) (sR (sN (sR h16 r_0 7 q15) 24 (ix (4 : Int32)) (ix (4 : Int32))) r_0 8 q17)) none := (evs_xpd _ tx_X_new [102] 90 _).trans rfl
set_option maxRecDepth 100000 in
theorem e_X_feed (d : Nat) (r_0 : Nat) (y_1 : Int64) (y_3 : Int64) (y_5 : Int64) (h : Hp) : evm (d + 1) 102 [vR 11 r_0, vL y_1, vL y_3, vL y_5] h =
    bR (hR h r_0 0) fun r1 =>
    bR (hR h r1 0) fun r2 =>
    bV (evm d 67 [vR 8 r2, vL y_1] h) fun h3 =>
    bR (hR h3 r_0 0) fun r4 =>
    bR (hR h3 r4 0) fun r5 =>
    bV (evm d 67 [vR 8 r5, vL y_3] h3) fun h6 =>
    bR (hR h6 r_0 0) fun r7 =>
    bR (hR h6 r7 0) fun r8 =>
    bV (evm d 67 [vR 8 r8, vL y_5] h6) fun h9 =>
    bR (hR h9 r_0 0) fun r10 =>
    bR (hR h9 r10 0) fun r11 =>
    some (some (vI (hI h9 r11 1)), h9) := (evs_xpd _ tx_X_feed [] 25 _).trans rfl
set_option maxRecDepth 100000 in
theorem e_X_stair (d : Nat) (r_0 : Nat) (h : Hp) : evm (d + 1) 103 [vR 11 r_0] h =
    bR (hR h r_0 0) fun r1 =>
    bR (hR h r_0 12) fun r2 =>
    bI (evm d 39 [vR 6 r1, vR 5 r2] h) fun x4 h3 =>
    ifp (x4 = 0)
      (bR (hR h3 r_0 11) fun r5 =>
      bR (hR h3 r_0 12) fun r6 =>
      bV (evm d 129 [vR 11 r_0] (sR (sR h3 r_0 11 r6) r_0 12 r5)) fun h7 =>
      some (some (vI x4), h7))
      (some (some (vI x4), h3)) := (evs_xpd _ tx_X_stair [] 27 _).trans rfl
set_option maxRecDepth 100000 in
theorem e_X_step (d : Nat) (r_0 : Nat) (x_1 : Int32) (x_2 : Int32) (h : Hp) : evm (d + 1) 104 [vR 11 r_0, vI x_1, vI x_2] h =
    ifp (x_1 < 0)
      (some (some (vI (-1 : Int32)), h))
      (bR (hR h r_0 11) fun r1 =>
      ifp ((hI h r1 7) < x_1)
        (some (some (vI (-1 : Int32)), h))
        (ifp (x_2 = (0 : Int32))
          (bR (hR h r_0 11) fun r2 =>
          bR (hR h r2 2) fun r3 =>
          ifp (inb x_1 (hN h r3) = true) (
          some (some (vI (hI h r3 (ix x_1))), h)) none)
          (ifp (x_2 = ((0 : Int32) + 1))
          (bR (hR h r_0 11) fun r4 =>
          bR (hR h r4 4) fun r5 =>
          ifp (inb x_1 (hN h r5) = true) (
          some (some (vI (hI h r5 (ix x_1))), h)) none)
          (ifp (x_2 = (((0 : Int32) + 1) + 1))
          (bR (hR h r_0 9) fun r6 =>
          ifp (inb x_1 (hN h r6) = true) (
          some (some (vI (hI h r6 (ix x_1))), h)) none)
          (
          some (some (vI (-1 : Int32)), h)))))) := (evs_xpd _ tx_X_step [] 35 _).trans rfl
set_option maxRecDepth 100000 in
theorem e_X_may (d : Nat) (r_0 : Nat) (x_1 : Int32) (h : Hp) : evm (d + 1) 105 [vR 11 r_0, vI x_1] h =
    bR (hR h r_0 1) fun r1 =>
    bR (hR h r_0 11) fun r2 =>
    bI (evm d 4 [vR 0 r1, vR 5 r2, vI x_1] h) fun x4 h3 =>
    bif isB x4 then some (some (vI x4), h3) else none := (evs_xpd _ tx_X_may [] 12 _).trans rfl
set_option maxRecDepth 100000 in
theorem e_X_stride (d : Nat) (r_0 : Nat) (x_1 : Int32) (h : Hp) : evm (d + 1) 106 [vR 11 r_0, vI x_1] h =
    bR (hR h r_0 1) fun r1 =>
    bR (hR h r_0 11) fun r2 =>
    bI (evm d 4 [vR 0 r1, vR 5 r2, vI x_1] h) fun x4 h3 =>
    ifp (x4 = 0)
      (some (some (vI (0 : Int32)), h3))
      (bR (hR h3 r_0 1) fun r5 =>
      bR (hR h3 r_0 11) fun r6 =>
      bV (evm d 5 [vR 0 r5, vR 5 r6, vI x_1] h3) fun h7 =>
      some (some (vI (1 : Int32)), h7)) := (evs_xpd _ tx_X_stride [] 22 _).trans rfl
set_option maxRecDepth 100000 in
theorem e_X_back (d : Nat) (r_0 : Nat) (x_1 : Int32) (h : Hp) : evm (d + 1) 107 [vR 11 r_0, vI x_1] h =
    bR (hR h r_0 1) fun r1 =>
    ifp ((hI h r1 2) = 0)
      (some (some (vI (0 : Int32)), h))
      (ifp (x_1 = 0)
        (bR (hR h r_0 1) fun r2 =>
        bR (hR h r_0 11) fun r3 =>
        bV (evm d 6 [vR 0 r2, vR 5 r3] h) fun h4 =>
        some (some (vI (1 : Int32)), h4))
        (bR (hR h r_0 1) fun r5 =>
        bV (evm d 1 [vR 0 r5] h) fun h6 =>
        some (some (vI (1 : Int32)), h6))) := (evs_xpd _ tx_X_back [] 24 _).trans rfl
set_option maxRecDepth 100000 in
theorem e_X_taken (d : Nat) (r_0 : Nat) (x_1 : Int32) (h : Hp) : evm (d + 1) 108 [vR 11 r_0, vI x_1] h =
    ifp (x_1 < 0)
      (some (some (vI (-1 : Int32)), h))
      (bR (hR h r_0 1) fun r1 =>
      ifp (x_1 < (hI h r1 2))
        (bR (hR h r_0 1) fun r2 =>
        bR (hR h r2 0) fun r3 =>
        ifp (inb x_1 (hN h r3) = true) (
        some (some (vI (hI h r3 (ix x_1))), h)) none)
        (some (some (vI (-1 : Int32)), h))) := (evs_xpd _ tx_X_taken [] 20 _).trans rfl
set_option maxRecDepth 100000 in
theorem e_X_lawful (d : Nat) (r_0 : Nat) (h : Hp) : evm (d + 1) 109 [vR 11 r_0] h =
    bR (hR h r_0 1) fun r1 =>
    bR (hR h r_0 11) fun r2 =>
    ifp ((hI h r1 1) < (hI h r2 7))
      (some (some (vI (-1 : Int32)), h))
      (bR (hR h r_0 11) fun r3 =>
      bR (hR h r_0 1) fun r4 =>
      bI (evm d 31 [vR 5 r3, vI (hI h r4 2)] h) fun x6 h5 =>
      ifp (x6 = 0)
        (some (some (vI (1 : Int32)), h5))
        (bR (hR h5 r_0 1) fun r7 =>
        bR (hR h5 r_0 11) fun r8 =>
        ifp ((hI h5 r7 2) < (hI h5 r8 13))
          (some (some (vI (2 : Int32)), h5))
          (some (some (vI (0 : Int32)), h5)))) := (evs_xpd _ tx_X_lawful [] 34 _).trans rfl
set_option maxRecDepth 100000 in
theorem e_X_many (d : Nat) (r_0 : Nat) (h : Hp) : evm (d + 1) 110 [vR 11 r_0] h =
    bR (hR h r_0 1) fun r1 =>
    bL (evm d 130 [vR 11 r_0, vR 0 r1] h) fun y3 h2 =>
    some (some (vL y3), h2) := (evs_xpd _ tx_X_many [] 10 _).trans rfl
set_option maxRecDepth 100000 in
theorem e_X_manyOf (d : Nat) (r_0 : Nat) (x_1 : Int32) (h : Hp) : evm (d + 1) 111 [vR 11 r_0, vI x_1] h =
    ifp (x_1 < 0)
      (some (some (vL (-1 : Int64)), h))
      (ifp ((40 : Int32) < x_1)
        (some (some (vL (-1 : Int64)), h))
        (bR (hR h r_0 3) fun r1 =>
        bR (hR h r_0 11) fun r2 =>
        bV (evm d 87 [vR 10 r1, vR 5 r2, vI x_1] h) fun h3 =>
        bR (hR h3 r_0 2) fun r4 =>
        bR (hR h3 r_0 1) fun r5 =>
        bV (evm d 3 [vR 0 r4, vR 0 r5] h3) fun h6 =>
        bR (hR h6 r_0 3) fun r7 =>
        bR (hR h6 r_0 11) fun r8 =>
        bR (hR h6 r_0 2) fun r9 =>
        bL (evm d 90 [vR 10 r7, vR 5 r8, vR 0 r9, vI (0 : Int32)] h6) fun y11 h10 =>
        some (some (vL y11), h10))) := (evs_xpd _ tx_X_manyOf [] 32 _).trans rfl
noncomputable def L_X_rank_33 (d : Nat) (r_0 : Nat) (y_1 : Int64) (x_3 : Int32) (h : Hp) : Option Rs := evs (evm d) tx_X_rank (33, [some (vR 11 r_0), some (vL y_1), none, some (vI x_3)], [], h)
set_option maxRecDepth 100000 in
theorem e_X_rank_33 (d : Nat) (r_0 : Nat) (y_1 : Int64) (x_3 : Int32) (h : Hp) : L_X_rank_33 d r_0 y_1 x_3 h =
    bR (hR h r_0 1) fun r1 =>
    ifp (x_3 < (hI h r1 2))
      (bR (hR h r_0 3) fun r2 =>
      bR (hR h r_0 11) fun r3 =>
      bR (hR h r_0 2) fun r4 =>
      bR (hR h r_0 1) fun r5 =>
      bR (hR h r5 0) fun r6 =>
      ifp (inb x_3 (hN h r6) = true) (
      bL (evm d 92 [vR 10 r2, vR 5 r3, vR 0 r4, vI (hI h r6 (ix x_3))] h) fun y8 h7 =>
      bR (hR h7 r_0 2) fun r9 =>
      bR (hR h7 r_0 11) fun r10 =>
      bR (hR h7 r_0 1) fun r11 =>
      bR (hR h7 r11 0) fun r12 =>
      ifp (inb x_3 (hN h7 r12) = true) (
      bV (evm d 5 [vR 0 r9, vR 5 r10, vI (hI h7 r12 (ix x_3))] h7) fun h13 =>
      L_X_rank_33 d r_0 (y_1 + y8) (x_3 + (1 : Int32)) h13) none) none)
      (some (some (vL y_1), h)) := (evs_xpd _ tx_X_rank [33] 56 _).trans rfl
set_option maxRecDepth 100000 in
theorem e_X_rank (d : Nat) (r_0 : Nat) (h : Hp) : evm (d + 1) 112 [vR 11 r_0] h =
    bI (evm d 109 [vR 11 r_0] h) fun x2 h1 =>
    ifp (x2 = 0)
      (bR (hR h1 r_0 3) fun r3 =>
      bR (hR h1 r_0 11) fun r4 =>
      bV (evm d 86 [vR 10 r3, vR 5 r4] h1) fun h5 =>
      bR (hR h5 r_0 2) fun r6 =>
      bV (evm d 1 [vR 0 r6] h5) fun h7 =>
      L_X_rank_33 d r_0 (0 : Int64) (0 : Int32) h7)
      (some (some (vL (-1 : Int64)), h1)) := (evs_xpd _ tx_X_rank [33] 56 _).trans rfl
set_option maxRecDepth 100000 in
theorem e_X_nth (d : Nat) (r_0 : Nat) (y_1 : Int64) (x_3 : Int32) (h : Hp) : evm (d + 1) 113 [vR 11 r_0, vL y_1, vI x_3] h =
    bR (hR h r_0 2) fun r1 =>
    bV (evm d 1 [vR 0 r1] h) fun h2 =>
    bI (evm d 131 [vR 11 r_0, vL y_1, vI x_3] h2) fun x4 h3 =>
    some (some (vI x4), h3) := (evs_xpd _ tx_X_nth [] 13 _).trans rfl
set_option maxRecDepth 100000 in
theorem e_X_plain (d : Nat) (r_0 : Nat) (x_1 : Int32) (x_2 : Int32) (h : Hp) : evm (d + 1) 114 [vR 11 r_0, vI x_1, vI x_2] h =
    ifp (x_1 < 0)
      (none)
      (ifp ((999999999 : Int32) < x_1)
        (none)
        (ifp (x_2 < (1 : Int32))
          (none)
          (ifp ((9999 : Int32) < x_2)
            (none)
            (bR (hR h r_0 7) fun r1 =>
            bR (hR h r_0 11) fun r2 =>
            bI (evm d 21 [vR 4 r1, vR 5 r2, vI x_1, vI x_2] h) fun x4 h3 =>
            some (some (vI x4), h3))))) := (evs_xpd _ tx_X_plain [] 28 _).trans rfl
set_option maxRecDepth 100000 in
theorem e_X_crowd (d : Nat) (r_0 : Nat) (y_1 : Int64) (x_3 : Int32) (h : Hp) : evm (d + 1) 115 [vR 11 r_0, vL y_1, vI x_3] h =
    bI (evm d 134 [vL y_1] h) fun x2 h1 =>
    ifp (x2 = 0)
      (ifp (x_3 < 0)
        (some (some (vL (-1 : Int64)), h1))
        (bR (hR h1 r_0 11) fun r3 =>
        ifp ((hI h1 r3 7) < x_3)
          (some (some (vL (-1 : Int64)), h1))
          (bR (hR h1 r_0 4) fun r4 =>
          bR (hR h1 r_0 11) fun r5 =>
          bV (evm d 78 [vR 9 r4, vR 5 r5, vL y_1] h1) fun h6 =>
          bR (hR h6 r_0 4) fun r7 =>
          bR (hR h6 r7 0) fun r8 =>
          ifp (inb x_3 (hN h6 r8) = true) (
          some (some (vL (hL h6 r8 (ix x_3))), h6)) none)))
      (some (some (vL (-1 : Int64)), h1)) := (evs_xpd _ tx_X_crowd [] 29 _).trans rfl
set_option maxRecDepth 100000 in
theorem e_X_weary (d : Nat) (r_0 : Nat) (y_1 : Int64) (h : Hp) : evm (d + 1) 116 [vR 11 r_0, vL y_1] h =
    bI (evm d 134 [vL y_1] h) fun x2 h1 =>
    ifp (x2 = 0)
      (bR (hR h1 r_0 4) fun r3 =>
      bR (hR h1 r_0 11) fun r4 =>
      bV (evm d 78 [vR 9 r3, vR 5 r4, vL y_1] h1) fun h5 =>
      bR (hR h5 r_0 4) fun r6 =>
      some (some (vL (hL h5 r6 1)), h5))
      (some (some (vL (-1 : Int64)), h1)) := (evs_xpd _ tx_X_weary [] 20 _).trans rfl
set_option maxRecDepth 100000 in
theorem e_X_weight (d : Nat) (r_0 : Nat) (x_1 : Int32) (h : Hp) : evm (d + 1) 117 [vR 11 r_0, vI x_1] h =
    bR (hR h r_0 1) fun r1 =>
    bR (hR h r_0 11) fun r2 =>
    bI (evm d 4 [vR 0 r1, vR 5 r2, vI x_1] h) fun x4 h3 =>
    ifp (x4 = 0)
      (some (some (vI (-1 : Int32)), h3))
      (bR (hR h3 r_0 1) fun r5 =>
      bR (hR h3 r_0 11) fun r6 =>
      bI (evm d 7 [vR 0 r5, vR 5 r6, vI x_1] h3) fun x8 h7 =>
      some (some (vI x8), h7)) := (evs_xpd _ tx_X_weight [] 21 _).trans rfl
set_option maxRecDepth 100000 in
theorem e_X_two (d : Nat) (r_0 : Nat) (h : Hp) : evm (d + 1) 118 [vR 11 r_0] h =
    bR (hR h r_0 11) fun r1 =>
    ifp ((24 : Int32) < (hI h r1 7))
      (some (some (vL (-1 : Int64)), h))
      (bR (hR h r_0 6) fun r2 =>
      bR (hR h r_0 11) fun r3 =>
      bL (evm d 17 [vR 3 r2, vR 5 r3] h) fun y5 h4 =>
      some (some (vL y5), h4)) := (evs_xpd _ tx_X_two [] 18 _).trans rfl
set_option maxRecDepth 100000 in
theorem e_X_game (d : Nat) (r_0 : Nat) (h : Hp) : evm (d + 1) 119 [vR 11 r_0] h =
    bR (hR h r_0 1) fun r1 =>
    bR (hR h r_0 11) fun r2 =>
    ifp ((hI h r1 1) < (hI h r2 7))
      (bR (hR h r_0 3) fun r3 =>
      bR (hR h r_0 11) fun r4 =>
      bV (evm d 88 [vR 10 r3, vR 5 r4] h) fun h5 =>
      bR (hR h5 r_0 2) fun r6 =>
      bR (hR h5 r_0 1) fun r7 =>
      bV (evm d 3 [vR 0 r6, vR 0 r7] h5) fun h8 =>
      bR (hR h8 r_0 3) fun r9 =>
      bR (hR h8 r_0 11) fun r10 =>
      bR (hR h8 r_0 2) fun r11 =>
      bI (evm d 94 [vR 10 r9, vR 5 r10, vR 0 r11, vI (0 : Int32)] h8) fun x13 h12 =>
      some (some (vI x13), h12))
      (some (some (vI (-1 : Int32)), h)) := (evs_xpd _ tx_X_game [] 33 _).trans rfl
noncomputable def L_X_heaps_13 (d : Nat) (r_0 : Nat) (x_2 : Int32) (x_3 : Int32) (x_4 : Int32) (h : Hp) : Option Rs := evs (evm d) tx_X_heaps (13, [some (vR 11 r_0), none, some (vI x_2), some (vI x_3), some (vI x_4), none], [], h)
noncomputable def L_X_heaps_19 (d : Nat) (r_0 : Nat) (x_2 : Int32) (x_3 : Int32) (x_4 : Int32) (h : Hp) : Option Rs := evs (evm d) tx_X_heaps (19, [some (vR 11 r_0), none, some (vI x_2), some (vI x_3), some (vI x_4), none], [], h)
set_option maxRecDepth 100000 in
theorem e_X_heaps_13 (d : Nat) (r_0 : Nat) (x_2 : Int32) (x_3 : Int32) (x_4 : Int32) (h : Hp) : L_X_heaps_13 d r_0 x_2 x_3 x_4 h =
    ifp (x_4 < (4 : Int32))
      (L_X_heaps_19 d r_0 x_2 x_3 x_4 h)
      (ifp (x_2 = 0)
        (ifp (x_3 = 0)
          (some (some (vI (0 : Int32)), h))
          (some (some (vI (1 : Int32)), h)))
        (some (some (vI (-1 : Int32)), h))) := (evs_xpd _ tx_X_heaps [13, 19] 60 _).trans rfl
set_option maxRecDepth 100000 in
theorem e_X_heaps_19 (d : Nat) (r_0 : Nat) (x_2 : Int32) (x_3 : Int32) (x_4 : Int32) (h : Hp) : L_X_heaps_19 d r_0 x_2 x_3 x_4 h =
    bR (hR h r_0 11) fun r1 =>
    ifp ((hI h r1 7) < (x_2 &&& (63 : Int32)))
      (some (some (vI (-1 : Int32)), h))
      (bR (hR h r_0 11) fun r2 =>
      bR (hR h r2 2) fun r3 =>
      ifp (inb (x_2 &&& (63 : Int32)) (hN h r3) = true) (
      ifp ((hI h r3 (ix (x_2 &&& (63 : Int32)))) = (1 : Int32))
        (some (some (vI (-1 : Int32)), h))
        (bR (hR h r_0 11) fun r4 =>
        bR (hR h r4 4) fun r5 =>
        ifp (inb (x_2 &&& (63 : Int32)) (hN h r5) = true) (
        L_X_heaps_13 d r_0 (x_2 >>> ((6 : Int32) &&& 31)) (x_3 ^^^ (hI h r5 (ix (x_2 &&& (63 : Int32))))) (x_4 + (1 : Int32)) h) none)) none) := (evs_xpd _ tx_X_heaps [13, 19] 60 _).trans rfl
set_option maxRecDepth 100000 in
theorem e_X_heaps (d : Nat) (r_0 : Nat) (x_1 : Int32) (h : Hp) : evm (d + 1) 120 [vR 11 r_0, vI x_1] h =
    ifp (x_1 < 0)
      (some (some (vI (-1 : Int32)), h))
      (L_X_heaps_13 d r_0 x_1 (0 : Int32) (0 : Int32) h) := (evs_xpd _ tx_X_heaps [13, 19] 60 _).trans rfl
set_option maxRecDepth 100000 in
theorem e_X_dust (d : Nat) (r_0 : Nat) (x_1 : Int32) (x_2 : Int32) (h : Hp) : evm (d + 1) 121 [vR 11 r_0, vI x_1, vI x_2] h =
    ifp (x_1 < (1 : Int32))
      (some (some (vI (0 : Int32)), h))
      (bR (hR h r_0 11) fun r1 =>
      ifp (x_1 < (hI h r1 7))
        (ifp (x_2 < 0)
          (some (some (vI (0 : Int32)), h))
          (ifp ((2 : Int32) < x_2)
            (some (some (vI (0 : Int32)), h))
            (bR (hR h r_0 9) fun r2 =>
            ifp (inb x_1 (hN h r2) = true) (
            some (some (vI (1 : Int32)), sI h r2 (ix x_1) x_2)) none)))
        (some (some (vI (0 : Int32)), h))) := (evs_xpd _ tx_X_dust [] 27 _).trans rfl
set_option maxRecDepth 100000 in
theorem e_X_fit (d : Nat) (r_0 : Nat) (h : Hp) : evm (d + 1) 122 [vR 11 r_0] h =
    bR (hR h r_0 3) fun r1 =>
    bR (hR h r_0 11) fun r2 =>
    bR (hR h r_0 9) fun r3 =>
    bV (evm d 89 [vR 10 r1, vR 5 r2, vR 20 r3] h) fun h4 =>
    bR (hR h4 r_0 2) fun r5 =>
    bV (evm d 1 [vR 0 r5] h4) fun h6 =>
    bR (hR h6 r_0 3) fun r7 =>
    bR (hR h6 r_0 11) fun r8 =>
    bR (hR h6 r_0 2) fun r9 =>
    bL (evm d 90 [vR 10 r7, vR 5 r8, vR 0 r9, vI (0 : Int32)] h6) fun y11 h10 =>
    some (some (vL y11), h10) := (evs_xpd _ tx_X_fit [] 24 _).trans rfl
set_option maxRecDepth 100000 in
theorem e_X_fewest (d : Nat) (r_0 : Nat) (h : Hp) : evm (d + 1) 123 [vR 11 r_0] h =
    bR (hR h r_0 5) fun r1 =>
    bR (hR h r_0 11) fun r2 =>
    bR (hR h r_0 9) fun r3 =>
    bI (evm d 62 [vR 7 r1, vR 5 r2, vR 20 r3] h) fun x5 h4 =>
    some (some (vI x5), h4) := (evs_xpd _ tx_X_fewest [] 13 _).trans rfl
noncomputable def L_X_still_14 (d : Nat) (x_1 : Int32) (x_2 : Int32) (x_3 : Int32) (x_4 : Int32) (x_5 : Int32) (h : Hp) : Option Rs := evs (evm d) tx_X_still (14, [none, some (vI x_1), some (vI x_2), some (vI x_3), some (vI x_4), some (vI x_5), none, none, none], [], h)
noncomputable def L_X_still_81 (d : Nat) (x_5 : Int32) (x_6 : Int32) (x_7 : Int32) (h : Hp) : Option Rs := evs (evm d) tx_X_still (81, [none, none, none, none, none, some (vI x_5), some (vI x_6), some (vI x_7), none], [], h)
set_option maxRecDepth 100000 in
theorem e_X_still_14 (d : Nat) (x_1 : Int32) (x_2 : Int32) (x_3 : Int32) (x_4 : Int32) (x_5 : Int32) (h : Hp) : L_X_still_14 d x_1 x_2 x_3 x_4 x_5 h =
    bI (evm d 135 [vI x_3] h) fun x2 h1 =>
    ifp (x2 = 0)
      (bI (evm d 135 [vI x_4] h1) fun x4 h3 =>
      ifp (x4 = 0)
        (ifp (x_5 < 0)
          (some (some (vI (-1 : Int32)), h3))
          (ifp ((1 : Int32) < x_5)
            (some (some (vI (-1 : Int32)), h3))
            (ifp (x_2 = x_4)
              (some (some (vI (-1 : Int32)), h3))
              (ifp ((x_4 - x_2) < 0)
                (L_X_still_81 d x_5 (-((x_1 * x_4) - (x_3 * x_2))) (-(x_4 - x_2)) h3)
                (L_X_still_81 d x_5 ((x_1 * x_4) - (x_3 * x_2)) (x_4 - x_2) h3)))))
        (some (some (vI (-1 : Int32)), h3)))
      (some (some (vI (-1 : Int32)), h1)) := (evs_xpd _ tx_X_still [14, 81] 65 _).trans rfl
set_option maxRecDepth 100000 in
theorem e_X_still_81 (d : Nat) (x_5 : Int32) (x_6 : Int32) (x_7 : Int32) (h : Hp) : L_X_still_81 d x_5 x_6 x_7 h =
    ifp (0 < x_6)
      (bI (evm d 137 [vI x_6, vI x_7] h) fun x2 h1 =>
      ifp (x_5 = 0)
        (ifp (x2 = 0) none (
        some (some (vI (x_6 / x2)), h1)))
        (ifp (x2 = 0) none (
        some (some (vI (x_7 / x2)), h1))))
      (some (some (vI (-1 : Int32)), h)) := (evs_xpd _ tx_X_still [14, 81] 65 _).trans rfl
set_option maxRecDepth 100000 in
theorem e_X_still (d : Nat) (r_0 : Nat) (x_1 : Int32) (x_2 : Int32) (x_3 : Int32) (x_4 : Int32) (x_5 : Int32) (h : Hp) : evm (d + 1) 124 [vR 11 r_0, vI x_1, vI x_2, vI x_3, vI x_4, vI x_5] h =
    bI (evm d 135 [vI x_1] h) fun x2 h1 =>
    ifp (x2 = 0)
      (bI (evm d 135 [vI x_2] h1) fun x4 h3 =>
      ifp (x4 = 0)
        (L_X_still_14 d x_1 x_2 x_3 x_4 x_5 h3)
        (some (some (vI (-1 : Int32)), h3)))
      (some (some (vI (-1 : Int32)), h1)) := (evs_xpd _ tx_X_still [14, 81] 65 _).trans rfl
noncomputable def L_X_fair_9 (d : Nat) (r_0 : Nat) (x_1 : Int32) (x_2 : Int32) (h : Hp) : Option Rs := evs (evm d) tx_X_fair (9, [some (vR 11 r_0), some (vI x_1), some (vI x_2), none, none, none, none], [], h)
set_option maxRecDepth 100000 in
theorem e_X_fair_9 (d : Nat) (r_0 : Nat) (x_1 : Int32) (x_2 : Int32) (h : Hp) : L_X_fair_9 d r_0 x_1 x_2 h =
    bR (hR h r_0 1) fun r1 =>
    bL (evm d 130 [vR 11 r_0, vR 0 r1] h) fun y3 h2 =>
    ifp (0 < (lg_cmp y3 (0 : Int64)))
      (bI (evm d 132 [vR 11 r_0, vI (32768 : Int32)] (sL h2 r_0 13 x_1.toInt64)) fun x5 h4 =>
      bI (evm d 132 [vR 11 r_0, vI (32768 : Int32)] h4) fun x7 h6 =>
      bI (evm d 132 [vR 11 r_0, vI (32768 : Int32)] h6) fun x9 h8 =>
      ifp (y3 = 0) none (
      bI (evm d 131 [vR 11 r_0, vL (lrem ((((x5.toInt64 * (32768 : Int64)) + x7.toInt64) * (32768 : Int64)) + x9.toInt64) y3), vI x_2] h8) fun x11 h10 =>
      some (some (vI x11), h10)))
      (some (some (vI (-1 : Int32)), h2)) := (evs_xpd _ tx_X_fair [9] 55 _).trans rfl
set_option maxRecDepth 100000 in
theorem e_X_fair (d : Nat) (r_0 : Nat) (x_1 : Int32) (x_2 : Int32) (h : Hp) : evm (d + 1) 125 [vR 11 r_0, vI x_1, vI x_2] h =
    bI (evm d 136 [vI x_1] h) fun x2 h1 =>
    ifp (x2 = 0)
      (L_X_fair_9 d r_0 x_1 x_2 h1)
      (some (some (vI (-1 : Int32)), h1)) := (evs_xpd _ tx_X_fair [9] 55 _).trans rfl
noncomputable def L_X_climb_33 (d : Nat) (r_0 : Nat) (x_2 : Int32) (x_3 : Int32) (h : Hp) : Option Rs := evs (evm d) tx_X_climb (33, [some (vR 11 r_0), none, some (vI x_2), some (vI x_3), none], [], h)
noncomputable def L_X_climb_110 (d : Nat) (r_0 : Nat) (x_2 : Int32) (h : Hp) : Option Rs := evs (evm d) tx_X_climb (110, [some (vR 11 r_0), none, some (vI x_2), none, none], [], h)
set_option maxRecDepth 100000 in
theorem e_X_climb_33 (d : Nat) (r_0 : Nat) (x_2 : Int32) (x_3 : Int32) (h : Hp) : L_X_climb_33 d r_0 x_2 x_3 h =
    ifp (x_3 < (40 : Int32))
      (bR (hR h r_0 2) fun r1 =>
      bR (hR h r_0 11) fun r2 =>
      bR (hR h r_0 10) fun r3 =>
      bV (evm d 8 [vR 0 r1, vR 5 r2, vR 20 r3] h) fun h4 =>
      bR (hR h4 r_0 2) fun r5 =>
      bR (hR h4 r_0 11) fun r6 =>
      bR (hR h4 r_0 10) fun r7 =>
      bR (hR h4 r_0 10) fun r8 =>
      bI (evm d 9 [vR 0 r5, vR 5 r6, vR 20 r7, vR 20 r8] h4) fun x10 h9 =>
      ifp (0 < x10)
        (bR (hR h9 r_0 2) fun r11 =>
        bR (hR h9 r_0 11) fun r12 =>
        bI (evm d 132 [vR 11 r_0, vI x10] h9) fun x14 h13 =>
        bI (evm d 133 [vR 11 r_0, vI x14] h13) fun x16 h15 =>
        bV (evm d 5 [vR 0 r11, vR 5 r12, vI x16] h15) fun h17 =>
        L_X_climb_33 d r_0 x_2 (x_3 + (1 : Int32)) h17)
        (L_X_climb_110 d r_0 x_2 h9))
      (L_X_climb_110 d r_0 x_2 h) := (evs_xpd _ tx_X_climb [33, 110] 69 _).trans rfl
set_option maxRecDepth 100000 in
theorem e_X_climb_110 (d : Nat) (r_0 : Nat) (x_2 : Int32) (h : Hp) : L_X_climb_110 d r_0 x_2 h =
    ifp (x_2 = 0)
      (bR (hR h r_0 2) fun r2 =>
      some (some (vI (hI h r2 1)), h))
      (bR (hR h r_0 2) fun r1 =>
      some (some (vI (hI h r1 2)), h)) := (evs_xpd _ tx_X_climb [33, 110] 69 _).trans rfl
set_option maxRecDepth 100000 in
theorem e_X_climb (d : Nat) (r_0 : Nat) (x_1 : Int32) (x_2 : Int32) (h : Hp) : evm (d + 1) 126 [vR 11 r_0, vI x_1, vI x_2] h =
    bI (evm d 136 [vI x_1] h) fun x2 h1 =>
    ifp (x2 = 0)
      (ifp (x_2 < 0)
        (some (some (vI (-1 : Int32)), h1))
        (ifp ((1 : Int32) < x_2)
          (some (some (vI (-1 : Int32)), h1))
          (bR (hR (sL h1 r_0 13 x_1.toInt64) r_0 2) fun r3 =>
          bV (evm d 1 [vR 0 r3] (sL h1 r_0 13 x_1.toInt64)) fun h4 =>
          L_X_climb_33 d r_0 x_2 (0 : Int32) h4)))
      (some (some (vI (-1 : Int32)), h1)) := (evs_xpd _ tx_X_climb [33, 110] 69 _).trans rfl
noncomputable def L_X_mark_39 (d : Nat) (r_0 : Nat) (x_2 : Int32) (r_3 : Nat) (h : Hp) : Option Rs := evs (evm d) tx_X_mark (39, [some (vR 11 r_0), none, some (vI x_2), some (vR 1 r_3)], [], h)
set_option maxRecDepth 100000 in
theorem e_X_mark_39 (d : Nat) (r_0 : Nat) (x_2 : Int32) (r_3 : Nat) (h : Hp) : L_X_mark_39 d r_0 x_2 r_3 h =
    ifp (x_2 = 0)
      (bR (hR (sI h r_3 2 (1 : Int32)) r_3 0) fun r1 =>
      bR (hR (sI h r_3 2 (1 : Int32)) r_0 1) fun r2 =>
      bV (evm d 3 [vR 0 r1, vR 0 r2] (sI h r_3 2 (1 : Int32))) fun h3 =>
      bR (hR h3 r_0 9) fun r4 =>
      bR (hR h3 r_3 1) fun r5 =>
      bR (hR h3 r_0 9) fun r6 =>
      ifp (0 ≤ (nI (hN h3 r6)).toInt ∧ 0 ≤ (0 : Int32).toInt ∧ 0 ≤ (0 : Int32).toInt ∧ ix (0 : Int32) + ix (nI (hN h3 r6)) ≤ hN h3 r4 ∧ ix (0 : Int32) + ix (nI (hN h3 r6)) ≤ hN h3 r5) (
      some (some (vI (1 : Int32)), sCp h3 r4 (ix (0 : Int32)) r5 (ix (0 : Int32)) (ix (nI (hN h3 r6))))) none)
      (bR (hR h r_0 1) fun r7 =>
      bR (hR h r_3 0) fun r8 =>
      bV (evm d 3 [vR 0 r7, vR 0 r8] h) fun h9 =>
      bR (hR h9 r_3 1) fun r10 =>
      bR (hR h9 r_0 9) fun r11 =>
      bR (hR h9 r_0 9) fun r12 =>
      ifp (0 ≤ (nI (hN h9 r12)).toInt ∧ 0 ≤ (0 : Int32).toInt ∧ 0 ≤ (0 : Int32).toInt ∧ ix (0 : Int32) + ix (nI (hN h9 r12)) ≤ hN h9 r10 ∧ ix (0 : Int32) + ix (nI (hN h9 r12)) ≤ hN h9 r11) (
      some (some (vI (1 : Int32)), sCp h9 r10 (ix (0 : Int32)) r11 (ix (0 : Int32)) (ix (nI (hN h9 r12))))) none) := (evs_xpd _ tx_X_mark [39] 66 _).trans rfl
set_option maxRecDepth 100000 in
theorem e_X_mark (d : Nat) (r_0 : Nat) (x_1 : Int32) (x_2 : Int32) (h : Hp) : evm (d + 1) 127 [vR 11 r_0, vI x_1, vI x_2] h =
    ifp (x_1 < 0)
      (some (some (vI (0 : Int32)), h))
      (bR (hR h r_0 8) fun r1 =>
      ifp (x_1 < (nI (hN h r1)))
        (bR (hR h r_0 8) fun r2 =>
        ifp (inb x_1 (hN h r2) = true) (
        bR (hR h r2 (ix x_1)) fun r3 =>
        ifp (x_2 = 0)
          (L_X_mark_39 d r_0 x_2 r3 h)
          (ifp ((hI h r3 2) = 0)
            (some (some (vI (0 : Int32)), h))
            (L_X_mark_39 d r_0 x_2 r3 h))) none)
        (some (some (vI (0 : Int32)), h))) := (evs_xpd _ tx_X_mark [39] 66 _).trans rfl
set_option maxRecDepth 100000 in
theorem e_X_count (d : Nat) (r_0 : Nat) (x_1 : Int32) (h : Hp) : evm (d + 1) 128 [vR 11 r_0, vI x_1] h =
    ifp (x_1 = (0 : Int32))
      (bR (hR h r_0 11) fun r1 =>
      some (some (vI (hI h r1 7)), h))
      (ifp (x_1 = ((0 : Int32) + 1))
      (bR (hR h r_0 1) fun r2 =>
      some (some (vI (hI h r2 1)), h))
      (ifp (x_1 = (((0 : Int32) + 1) + 1))
      (bR (hR h r_0 1) fun r3 =>
      some (some (vI (hI h r3 2)), h))
      (ifp (x_1 = ((((0 : Int32) + 1) + 1) + 1))
      (bR (hR h r_0 1) fun r4 =>
      some (some (vI (hI h r4 4)), h))
      (ifp (x_1 = (((((0 : Int32) + 1) + 1) + 1) + 1))
      (bR (hR h r_0 1) fun r5 =>
      some (some (vI (hI h r5 5)), h))
      (ifp (x_1 = ((((((0 : Int32) + 1) + 1) + 1) + 1) + 1))
      (bR (hR h r_0 11) fun r6 =>
      some (some (vI (hI h r6 8)), h))
      (ifp (x_1 = (((((((0 : Int32) + 1) + 1) + 1) + 1) + 1) + 1))
      (bR (hR h r_0 11) fun r7 =>
      some (some (vI (hI h r7 11)), h))
      (ifp (x_1 = ((((((((0 : Int32) + 1) + 1) + 1) + 1) + 1) + 1) + 1))
      (bR (hR h r_0 0) fun r8 =>
      bR (hR h r8 0) fun r9 =>
      some (some (vI (hI h r9 1)), h))
      (
      some (some (vI (-1 : Int32)), h))))))))) := (evs_xpd _ tx_X_count [] 42 _).trans rfl
noncomputable def L_X_beginAnew_23 (d : Nat) (r_0 : Nat) (x_1 : Int32) (h : Hp) : Option Rs := evs (evm d) tx_X_beginAnew (23, [some (vR 11 r_0), some (vI x_1), none], [], h)
noncomputable def L_X_beginAnew_47 (d : Nat) (r_0 : Nat) (x_1 : Int32) (h : Hp) : Option Rs := evs (evm d) tx_X_beginAnew (47, [some (vR 11 r_0), some (vI x_1), none], [], h)
set_option maxRecDepth 100000 in
theorem e_X_beginAnew_23 (d : Nat) (r_0 : Nat) (x_1 : Int32) (h : Hp) : L_X_beginAnew_23 d r_0 x_1 h =
    bR (hR h r_0 9) fun r1 =>
    ifp (x_1 < (nI (hN h r1)))
      (bR (hR h r_0 9) fun r2 =>
      ifp (inb x_1 (hN h r2) = true) (
      L_X_beginAnew_23 d r_0 (x_1 + (1 : Int32)) (sI h r2 (ix x_1) (0 : Int32))) none)
      (L_X_beginAnew_47 d r_0 (0 : Int32) h) := (evs_xpd _ tx_X_beginAnew [23, 47] 48 _).trans rfl
set_option maxRecDepth 100000 in
theorem e_X_beginAnew_47 (d : Nat) (r_0 : Nat) (x_1 : Int32) (h : Hp) : L_X_beginAnew_47 d r_0 x_1 h =
    bR (hR h r_0 8) fun r1 =>
    ifp (x_1 < (nI (hN h r1)))
      (bR (hR h r_0 8) fun r2 =>
      ifp (inb x_1 (hN h r2) = true) (
      bR (hR h r2 (ix x_1)) fun r3 =>
      L_X_beginAnew_47 d r_0 (x_1 + (1 : Int32)) (sI h r3 2 (0 : Int32))) none)
      (some (none, h)) := (evs_xpd _ tx_X_beginAnew [23, 47] 48 _).trans rfl
set_option maxRecDepth 100000 in
theorem e_X_beginAnew (d : Nat) (r_0 : Nat) (h : Hp) : evm (d + 1) 129 [vR 11 r_0] h =
    bR (hR h r_0 1) fun r1 =>
    bV (evm d 1 [vR 0 r1] h) fun h2 =>
    bR (hR h2 r_0 3) fun r3 =>
    bV (evm d 85 [vR 10 r3] h2) fun h4 =>
    bR (hR h4 r_0 4) fun r5 =>
    bV (evm d 77 [vR 9 r5] h4) fun h6 =>
    L_X_beginAnew_23 d r_0 (0 : Int32) h6 := (evs_xpd _ tx_X_beginAnew [23, 47] 48 _).trans rfl
set_option maxRecDepth 100000 in
theorem e_X_manyFrom (d : Nat) (r_0 : Nat) (r_1 : Nat) (h : Hp) : evm (d + 1) 130 [vR 11 r_0, vR 0 r_1] h =
    bR (hR h r_0 3) fun r1 =>
    bR (hR h r_0 11) fun r2 =>
    bV (evm d 86 [vR 10 r1, vR 5 r2] h) fun h3 =>
    bR (hR h3 r_0 2) fun r4 =>
    bV (evm d 3 [vR 0 r4, vR 0 r_1] h3) fun h5 =>
    bR (hR h5 r_0 3) fun r6 =>
    bR (hR h5 r_0 11) fun r7 =>
    bR (hR h5 r_0 2) fun r8 =>
    bL (evm d 90 [vR 10 r6, vR 5 r7, vR 0 r8, vI (0 : Int32)] h5) fun y10 h9 =>
    some (some (vL y10), h9) := (evs_xpd _ tx_X_manyFrom [] 23 _).trans rfl
set_option maxRecDepth 100000 in
theorem e_X_strideOf (d : Nat) (r_0 : Nat) (y_1 : Int64) (x_3 : Int32) (h : Hp) : evm (d + 1) 131 [vR 11 r_0, vL y_1, vI x_3] h =
    bR (hR h r_0 3) fun r1 =>
    bR (hR h r_0 11) fun r2 =>
    bV (evm d 86 [vR 10 r1, vR 5 r2] h) fun h3 =>
    ifp (x_3 < 0)
      (some (some (vI (-1 : Int32)), h3))
      (ifp ((lg_cmp y_1 (0 : Int64)) < 0)
        (some (some (vI (-1 : Int32)), h3))
        (bR (hR h3 r_0 3) fun r4 =>
        bR (hR h3 r_0 11) fun r5 =>
        bR (hR h3 r_0 2) fun r6 =>
        bL (evm d 90 [vR 10 r4, vR 5 r5, vR 0 r6, vI (0 : Int32)] h3) fun y8 h7 =>
        ifp ((lg_cmp y_1 y8) < 0)
          (bR (hR h7 r_0 3) fun r9 =>
          bR (hR h7 r_0 11) fun r10 =>
          bR (hR h7 r_0 2) fun r11 =>
          bI (evm d 93 [vR 10 r9, vR 5 r10, vR 0 r11, vL y_1, vI x_3] h7) fun x13 h12 =>
          some (some (vI x13), h12))
          (some (some (vI (-1 : Int32)), h7)))) := (evs_xpd _ tx_X_strideOf [] 39 _).trans rfl
set_option maxRecDepth 100000 in
theorem e_X_drawBelow (d : Nat) (r_0 : Nat) (x_1 : Int32) (h : Hp) : evm (d + 1) 132 [vR 11 r_0, vI x_1] h =
    ifp (0 < x_1)
      (ifp ((65536 : Int64) = 0) none (
      ifp (x_1.toInt64 = 0) none (
      some (some (vI ((lrem ((hL (sL h r_0 13 ((((hL h r_0 13) * (1103515245 : Int64)) + (12345 : Int64)) &&& (2147483647 : Int64))) r_0 13) / (65536 : Int64)) x_1.toInt64).toInt32)), sL h r_0 13 ((((hL h r_0 13) * (1103515245 : Int64)) + (12345 : Int64)) &&& (2147483647 : Int64))))))
      (some (some (vI (0 : Int32)), sL h r_0 13 ((((hL h r_0 13) * (1103515245 : Int64)) + (12345 : Int64)) &&& (2147483647 : Int64)))) := (evs_xpd _ tx_X_drawBelow [] 28 _).trans rfl
noncomputable def L_X_strideWeighing_4 (d : Nat) (r_0 : Nat) (x_1 : Int32) (x_2 : Int32) (x_3 : Int32) (h : Hp) : Option Rs := evs (evm d) tx_X_strideWeighing (4, [some (vR 11 r_0), some (vI x_1), some (vI x_2), some (vI x_3)], [], h)
set_option maxRecDepth 100000 in
theorem e_X_strideWeighing_4 (d : Nat) (r_0 : Nat) (x_1 : Int32) (x_2 : Int32) (x_3 : Int32) (h : Hp) : L_X_strideWeighing_4 d r_0 x_1 x_2 x_3 h =
    bR (hR h r_0 11) fun r1 =>
    ifp (x_3 < (hI h r1 8))
      (bR (hR h r_0 10) fun r2 =>
      ifp (x_3 < (nI (hN h r2)))
        (bR (hR h r_0 10) fun r3 =>
        ifp (inb x_3 (hN h r3) = true) (
        ifp (x_1 < (x_2 + (hI h r3 (ix x_3))))
          (bR (hR h r_0 11) fun r4 =>
          bR (hR h r4 0) fun r5 =>
          ifp (inb x_3 (hN h r5) = true) (
          some (some (vI (hI h r5 (ix x_3))), h)) none)
          (L_X_strideWeighing_4 d r_0 x_1 (x_2 + (hI h r3 (ix x_3))) (x_3 + (1 : Int32)) h)) none)
        (some (some (vI (-1 : Int32)), h)))
      (some (some (vI (-1 : Int32)), h)) := (evs_xpd _ tx_X_strideWeighing [4] 39 _).trans rfl
set_option maxRecDepth 100000 in
theorem e_X_strideWeighing (d : Nat) (r_0 : Nat) (x_1 : Int32) (h : Hp) : evm (d + 1) 133 [vR 11 r_0, vI x_1] h =
    L_X_strideWeighing_4 d r_0 x_1 (0 : Int32) (0 : Int32) h := (evs_xpd _ tx_X_strideWeighing [4] 39 _).trans rfl
set_option maxRecDepth 100000 in
theorem e_X_isNoCrowd (d : Nat) (y_0 : Int64) (h : Hp) : evm (d + 1) 134 [vL y_0] h =
    ifp ((lg_cmp y_0 (1 : Int64)) < 0)
      (some (some (vI (1 : Int32)), h))
      (ifp (0 < (lg_cmp y_0 (1000000000000 : Int64)))
        (some (some (vI (1 : Int32)), h))
        (some (some (vI (0 : Int32)), h))) := (evs_xpd _ tx_X_isNoCrowd [] 17 _).trans rfl
set_option maxRecDepth 100000 in
theorem e_X_isNoStill (d : Nat) (x_0 : Int32) (h : Hp) : evm (d + 1) 135 [vI x_0] h =
    ifp (x_0 < (1 : Int32))
      (some (some (vI (1 : Int32)), h))
      (ifp ((999 : Int32) < x_0)
        (some (some (vI (1 : Int32)), h))
        (some (some (vI (0 : Int32)), h))) := (evs_xpd _ tx_X_isNoStill [] 15 _).trans rfl
set_option maxRecDepth 100000 in
theorem e_X_isNoSeed (d : Nat) (x_0 : Int32) (h : Hp) : evm (d + 1) 136 [vI x_0] h =
    ifp (x_0 < 0)
      (some (some (vI (1 : Int32)), h))
      (ifp ((9999 : Int32) < x_0)
        (some (some (vI (1 : Int32)), h))
        (some (some (vI (0 : Int32)), h))) := (evs_xpd _ tx_X_isNoSeed [] 14 _).trans rfl
noncomputable def L_X_commonDivisor_7 (d : Nat) (x_2 : Int32) (x_3 : Int32) (x_4 : Int32) (h : Hp) : Option Rs := evs (evm d) tx_X_commonDivisor (7, [none, none, some (vI x_2), some (vI x_3), some (vI x_4), none], [], h)
set_option maxRecDepth 100000 in
theorem e_X_commonDivisor_7 (d : Nat) (x_2 : Int32) (x_3 : Int32) (x_4 : Int32) (h : Hp) : L_X_commonDivisor_7 d x_2 x_3 x_4 h =
    ifp (x_4 < (64 : Int32))
      (ifp (x_3 = 0)
        (ifp (0 < x_2)
          (some (some (vI x_2), h))
          (some (some (vI (1 : Int32)), h)))
        (ifp (x_3 = 0) none (
        L_X_commonDivisor_7 d x_3 (irem x_2 x_3) (x_4 + (1 : Int32)) h)))
      (ifp (0 < x_2)
        (some (some (vI x_2), h))
        (some (some (vI (1 : Int32)), h))) := (evs_xpd _ tx_X_commonDivisor [7] 32 _).trans rfl
set_option maxRecDepth 100000 in
theorem e_X_commonDivisor (d : Nat) (x_0 : Int32) (x_1 : Int32) (h : Hp) : evm (d + 1) 137 [vI x_0, vI x_1] h =
    L_X_commonDivisor_7 d x_0 x_1 (0 : Int32) h := (evs_xpd _ tx_X_commonDivisor [7] 32 _).trans rfl
set_option maxRecDepth 100000 in
theorem e_JMath_max (d : Nat) (x_0 : Int32) (x_1 : Int32) (h : Hp) : evm (d + 1) 240 [vI x_0, vI x_1] h =
    ifp (x_0 < x_1)
      (some (some (vI x_1), h))
      (some (some (vI x_0), h)) := (evs_xpd _ tx_JMath_max [] 12 _).trans rfl
set_option maxRecDepth 100000 in
theorem e_JMath_min (d : Nat) (x_0 : Int32) (x_1 : Int32) (h : Hp) : evm (d + 1) 241 [vI x_0, vI x_1] h =
    ifp (x_1 < x_0)
      (some (some (vI x_1), h))
      (some (some (vI x_0), h)) := (evs_xpd _ tx_JMath_min [] 12 _).trans rfl
set_option maxRecDepth 100000 in
theorem e_JStr_length (d : Nat) (r_0 : Nat) (h : Hp) : evm (d + 1) 242 [vR 40 r_0] h =
    bI (evm d 243 [vR 40 r_0] h) fun x2 h1 =>
    some (some (vI ((nI (slen r_0)) >>> (x2 &&& 31))), h1) := (evs_xpd _ tx_JStr_length [] 12 _).trans rfl
set_option maxRecDepth 100000 in
theorem e_JStr_coder (d : Nat) (r_0 : Nat) (h : Hp) : evm (d + 1) 243 [vR 40 r_0] h =
    ifp ((1 : Int32) = 0)
      (bif isBy (1 : Int32) then some (some (vI (1 : Int32)), h) else none)
      (bif isBy (0 : Int32) then some (some (vI (0 : Int32)), h) else none) := (evs_xpd _ tx_JStr_coder [] 12 _).trans rfl
set_option maxRecDepth 100000 in
theorem e_JStr_isLatin1 (d : Nat) (r_0 : Nat) (h : Hp) : evm (d + 1) 244 [vR 40 r_0] h =
    ifp ((1 : Int32) = 0)
      (some (some (vI (0 : Int32)), h))
      (ifp ((0 : Int32) = 0)
        (some (some (vI (1 : Int32)), h))
        (some (some (vI (0 : Int32)), h))) := (evs_xpd _ tx_JStr_isLatin1 [] 14 _).trans rfl
set_option maxRecDepth 100000 in
theorem e_JStr_charAt (d : Nat) (r_0 : Nat) (x_1 : Int32) (h : Hp) : evm (d + 1) 245 [vR 40 r_0, vI x_1] h =
    bI (evm d 244 [vR 40 r_0] h) fun x2 h1 =>
    ifp (x2 = 0)
      (none)
      (bI (evm d 249 [vR 41 r_0, vI x_1] h1) fun x4 h3 =>
      bif isCh x4 then some (some (vI x4), h3) else none) := (evs_xpd _ tx_JStr_charAt [] 18 _).trans rfl
set_option maxRecDepth 100000 in
theorem e_JStr_indexOf (d : Nat) (r_0 : Nat) (x_1 : Int32) (h : Hp) : evm (d + 1) 246 [vR 40 r_0, vI x_1] h =
    bI (evm d 247 [vR 40 r_0, vI x_1, vI (0 : Int32)] h) fun x2 h1 =>
    some (some (vI x2), h1) := (evs_xpd _ tx_JStr_indexOf [] 10 _).trans rfl
set_option maxRecDepth 100000 in
theorem e_JStr_indexOf3 (d : Nat) (r_0 : Nat) (x_1 : Int32) (x_2 : Int32) (h : Hp) : evm (d + 1) 247 [vR 40 r_0, vI x_1, vI x_2] h =
    bI (evm d 244 [vR 40 r_0] h) fun x2 h1 =>
    ifp (x2 = 0)
      (bI (evm d 242 [vR 40 r_0] h1) fun x4 h3 =>
      none)
      (bI (evm d 242 [vR 40 r_0] h1) fun x6 h5 =>
      bI (evm d 251 [vR 41 r_0, vI x_1, vI x_2, vI x6] h5) fun x8 h7 =>
      some (some (vI x8), h7)) := (evs_xpd _ tx_JStr_indexOf3 [] 24 _).trans rfl
set_option maxRecDepth 100000 in
theorem e_JStr_checkIndex (d : Nat) (x_0 : Int32) (x_1 : Int32) (h : Hp) : evm (d + 1) 248 [vI x_0, vI x_1] h =
    bI (evm d 253 [vI x_0, vI x_1, vR 43 0] h) fun x2 h1 =>
    some (none, h1) := (evs_xpd _ tx_JStr_checkIndex [] 11 _).trans rfl
set_option maxRecDepth 100000 in
theorem e_JLat_charAt (d : Nat) (r_0 : Nat) (x_1 : Int32) (h : Hp) : evm (d + 1) 249 [vR 41 r_0, vI x_1] h =
    bV (evm d 248 [vI x_1, vI (nI (slen r_0))] h) fun h1 =>
    ifp (inb x_1 (slen r_0) = true) (
    bif isCh (chr ((sby r_0 (ix x_1)) &&& (255 : Int32))) then some (some (vI (chr ((sby r_0 (ix x_1)) &&& (255 : Int32)))), h1) else none) none := (evs_xpd _ tx_JLat_charAt [] 16 _).trans rfl
set_option maxRecDepth 100000 in
theorem e_JLat_canEncode (d : Nat) (x_0 : Int32) (h : Hp) : evm (d + 1) 250 [vI x_0] h =
    ifp (x_0 < 0)
      (some (some (vI (0 : Int32)), h))
      (ifp ((255 : Int32) < x_0)
        (some (some (vI (0 : Int32)), h))
        (some (some (vI (1 : Int32)), h))) := (evs_xpd _ tx_JLat_canEncode [] 14 _).trans rfl
set_option maxRecDepth 100000 in
theorem e_JLat_indexOf (d : Nat) (r_0 : Nat) (x_1 : Int32) (x_2 : Int32) (x_3 : Int32) (h : Hp) : evm (d + 1) 251 [vR 41 r_0, vI x_1, vI x_2, vI x_3] h =
    bI (evm d 250 [vI x_1] h) fun x2 h1 =>
    ifp (x2 = 0)
      (some (some (vI (-1 : Int32)), h1))
      (bI (evm d 240 [vI x_2, vI (0 : Int32)] h1) fun x4 h3 =>
      bI (evm d 241 [vI x_3, vI (nI (slen r_0))] h3) fun x6 h5 =>
      ifp (x4 < x6)
        (bI (evm d 252 [vR 41 r_0, vI x_1, vI x4, vI x6] h5) fun x8 h7 =>
        some (some (vI x8), h7))
        (some (some (vI (-1 : Int32)), h5))) := (evs_xpd _ tx_JLat_indexOf [] 30 _).trans rfl
noncomputable def L_JLat_indexOfChar_7 (d : Nat) (r_0 : Nat) (x_3 : Int32) (x_4 : Int32) (x_5 : Int32) (h : Hp) : Option Rs := evs (evm d) tx_JLat_indexOfChar (7, [some (vR 41 r_0), none, none, some (vI x_3), some (vI x_4), some (vI x_5)], [], h)
set_option maxRecDepth 100000 in
theorem e_JLat_indexOfChar_7 (d : Nat) (r_0 : Nat) (x_3 : Int32) (x_4 : Int32) (x_5 : Int32) (h : Hp) : L_JLat_indexOfChar_7 d r_0 x_3 x_4 x_5 h =
    ifp (x_5 < x_3)
      (ifp (inb x_5 (slen r_0) = true) (
      ifp ((sby r_0 (ix x_5)) = x_4)
        (some (some (vI x_5), h))
        (L_JLat_indexOfChar_7 d r_0 x_3 x_4 (x_5 + (1 : Int32)) h)) none)
      (some (some (vI (-1 : Int32)), h)) := (evs_xpd _ tx_JLat_indexOfChar [7] 24 _).trans rfl
set_option maxRecDepth 100000 in
theorem e_JLat_indexOfChar (d : Nat) (r_0 : Nat) (x_1 : Int32) (x_2 : Int32) (x_3 : Int32) (h : Hp) : evm (d + 1) 252 [vR 41 r_0, vI x_1, vI x_2, vI x_3] h =
    L_JLat_indexOfChar_7 d r_0 x_3 x_1.toInt8.toInt32 x_2 h := (evs_xpd _ tx_JLat_indexOfChar [7] 24 _).trans rfl
set_option maxRecDepth 100000 in
theorem e_JPre_checkIndex (d : Nat) (x_0 : Int32) (x_1 : Int32) (r_2 : Nat) (h : Hp) : evm (d + 1) 253 [vI x_0, vI x_1, vR 43 r_2] h =
    ifp (x_0 < 0)
      (none)
      (ifp (x_0 < x_1)
        (some (some (vI x_0), h))
        (none)) := (evs_xpd _ tx_JPre_checkIndex [] 17 _).trans rfl
end
section
set_option maxRecDepth 100000 in
theorem e_M_thrown (d : Nat) (r_0 : Nat) (h : Hp) : evm (d + 1) 138 [vR 12 r_0] h =
    some (some (vI (hI h r_0 0)), h) := (evs_xpd _ tx_M_thrown [] 8 _).trans rfl
set_option maxRecDepth 100000 in
theorem e_M_feed (d : Nat) (r_0 : Nat) (y_1 : Int64) (y_3 : Int64) (y_5 : Int64) (h : Hp) : evm (d + 1) 139 [vR 12 r_0, vL y_1, vL y_3, vL y_5] h =
    bV (evm d 140 [vR 12 r_0, vL y_1] (sI h r_0 0 (0 : Int32))) fun h1 =>
    bV (evm d 140 [vR 12 r_0, vL y_3] h1) fun h2 =>
    bV (evm d 140 [vR 12 r_0, vL y_5] h2) fun h3 =>
    some (some (vI (hI h3 r_0 2)), h3) := (evs_xpd _ tx_M_feed [] 20 _).trans rfl
noncomputable def L_M_lay_3 (d : Nat) (r_0 : Nat) (y_1 : Int64) (x_3 : Int32) (h : Hp) : Option Rs := evs (evm d) tx_M_lay (3, [some (vR 12 r_0), some (vL y_1), none, some (vI x_3), none], [], h)
noncomputable def L_M_lay_38 (d : Nat) (r_0 : Nat) (y_1 : Int64) (x_3 : Int32) (x_4 : Int32) (h : Hp) : Option Rs := evs (evm d) tx_M_lay (38, [some (vR 12 r_0), some (vL y_1), none, some (vI x_3), some (vI x_4)], [], h)
set_option maxRecDepth 100000 in
theorem e_M_lay_3 (d : Nat) (r_0 : Nat) (y_1 : Int64) (x_3 : Int32) (h : Hp) : L_M_lay_3 d r_0 y_1 x_3 h =
    ifp (x_3 < 0)
      (some (none, h))
      (ifp (((y_1 >>> (x_3.toInt64 &&& 63)).toInt32 &&& (255 : Int32)) = (10 : Int32))
        (L_M_lay_38 d r_0 y_1 x_3 ((y_1 >>> (x_3.toInt64 &&& 63)).toInt32 &&& (255 : Int32)) h)
        (ifp (((y_1 >>> (x_3.toInt64 &&& 63)).toInt32 &&& (255 : Int32)) < (32 : Int32))
          (L_M_lay_3 d r_0 y_1 (x_3 + (-8 : Int32)) h)
          (ifp ((126 : Int32) < ((y_1 >>> (x_3.toInt64 &&& 63)).toInt32 &&& (255 : Int32)))
            (L_M_lay_3 d r_0 y_1 (x_3 + (-8 : Int32)) h)
            (L_M_lay_38 d r_0 y_1 x_3 ((y_1 >>> (x_3.toInt64 &&& 63)).toInt32 &&& (255 : Int32)) h)))) := (evs_xpd _ tx_M_lay [3, 38] 44 _).trans rfl
set_option maxRecDepth 100000 in
theorem e_M_lay_38 (d : Nat) (r_0 : Nat) (y_1 : Int64) (x_3 : Int32) (x_4 : Int32) (h : Hp) : L_M_lay_38 d r_0 y_1 x_3 x_4 h =
    ifp ((hI h r_0 2) < (1000 : Int32))
      (bR (hR h r_0 1) fun r1 =>
      ifp (inb (hI h r_0 2) (hN h r1) = true) (
      L_M_lay_3 d r_0 y_1 (x_3 + (-8 : Int32)) (sI (sI h r1 (ix (hI h r_0 2)) x_4) r_0 2 ((hI (sI h r1 (ix (hI h r_0 2)) x_4) r_0 2) + (1 : Int32)))) none)
      (L_M_lay_3 d r_0 y_1 (x_3 + (-8 : Int32)) h) := (evs_xpd _ tx_M_lay [3, 38] 44 _).trans rfl
set_option maxRecDepth 100000 in
theorem e_M_lay (d : Nat) (r_0 : Nat) (y_1 : Int64) (h : Hp) : evm (d + 1) 140 [vR 12 r_0, vL y_1] h =
    L_M_lay_3 d r_0 y_1 (56 : Int32) h := (evs_xpd _ tx_M_lay [3, 38] 44 _).trans rfl
noncomputable def L_M_new_196 (d : Nat) (r_0 : Nat) (h : Hp) : Option Rs := evs (evm d) tx_M_new (196, [some (vR 12 r_0)], [], h)
noncomputable def L_M_new_239 (d : Nat) (r_0 : Nat) (h : Hp) : Option Rs := evs (evm d) tx_M_new (239, [some (vR 12 r_0)], [], h)
noncomputable def L_M_new_281 (d : Nat) (r_0 : Nat) (h : Hp) : Option Rs := evs (evm d) tx_M_new (281, [some (vR 12 r_0)], [], h)
noncomputable def L_M_new_324 (d : Nat) (r_0 : Nat) (h : Hp) : Option Rs := evs (evm d) tx_M_new (324, [some (vR 12 r_0)], [], h)
noncomputable def L_M_new_361 (d : Nat) (r_0 : Nat) (h : Hp) : Option Rs := evs (evm d) tx_M_new (361, [some (vR 12 r_0)], [], h)
set_option maxRecDepth 100000 in
theorem e_M_new_196 (d : Nat) (r_0 : Nat) (h : Hp) : L_M_new_196 d r_0 h =
    ifp (inb (140 : Int32) 1000000 = true) (
    alc h fun q1 =>
    ifp (inb (2200 : Int32) 1000000 = true) (
    alc (sR (sN h 20 (ix (140 : Int32)) (ix (140 : Int32))) r_0 10 q1) fun q2 =>
    ifp (inb (2200 : Int32) 1000000 = true) (
    alc (sR (sN (sR (sN h 20 (ix (140 : Int32)) (ix (140 : Int32))) r_0 10 q1) 20 (ix (2200 : Int32)) (ix (2200 : Int32))) r_0 11 q2) fun q3 =>
    ifp (inb (4 : Int32) 1000000 = true) (
    alc (sR (sN (sR (sN (sR (sN h 20 (ix (140 : Int32)) (ix (140 : Int32))) r_0 10 q1) 20 (ix (2200 : Int32)) (ix (2200 : Int32))) r_0 11 q2) 20 (ix (2200 : Int32)) (ix (2200 : Int32))) r_0 12 q3) fun q4 =>
    ifp (inb (1100 : Int32) 1000000 = true) (
    alc (sR (sN (sR (sN (sR (sN (sR (sN h 20 (ix (140 : Int32)) (ix (140 : Int32))) r_0 10 q1) 20 (ix (2200 : Int32)) (ix (2200 : Int32))) r_0 11 q2) 20 (ix (2200 : Int32)) (ix (2200 : Int32))) r_0 12 q3) 20 (ix (4 : Int32)) (ix (4 : Int32))) r_0 15 q4) fun q5 =>
    L_M_new_239 d r_0 (sR (sN (sR (sN (sR (sN (sR (sN (sR (sN h 20 (ix (140 : Int32)) (ix (140 : Int32))) r_0 10 q1) 20 (ix (2200 : Int32)) (ix (2200 : Int32))) r_0 11 q2) 20 (ix (2200 : Int32)) (ix (2200 : Int32))) r_0 12 q3) 20 (ix (4 : Int32)) (ix (4 : Int32))) r_0 15 q4) 20 (ix (1100 : Int32)) (ix (1100 : Int32))) r_0 16 q5)) none) none) none) none) none := (evs_xpd _ tx_M_new [196, 239, 281, 324, 361] 211 _).trans rfl
set_option maxRecDepth 100000 in
theorem e_M_new_239 (d : Nat) (r_0 : Nat) (h : Hp) : L_M_new_239 d r_0 h =
    ifp (inb (420 : Int32) 1000000 = true) (
    alc h fun q1 =>
    ifp (inb (4 : Int32) 1000000 = true) (
    alc (sR (sN h 20 (ix (420 : Int32)) (ix (420 : Int32))) r_0 17 q1) fun q2 =>
    ifp (inb (294175 : Int32) 1000000 = true) (
    alc (sR (sN (sR (sN h 20 (ix (420 : Int32)) (ix (420 : Int32))) r_0 17 q1) 23 (ix (4 : Int32)) (ix (4 : Int32))) r_0 18 q2) fun q3 =>
    ifp (inb (144 : Int32) 1000000 = true) (
    alc (sR (sN (sR (sN (sR (sN h 20 (ix (420 : Int32)) (ix (420 : Int32))) r_0 17 q1) 23 (ix (4 : Int32)) (ix (4 : Int32))) r_0 18 q2) 21 (ix (294175 : Int32)) (ix (294175 : Int32))) r_0 23 q3) fun q4 =>
    ifp (inb (144 : Int32) 1000000 = true) (
    alc (sR (sN (sR (sN (sR (sN (sR (sN h 20 (ix (420 : Int32)) (ix (420 : Int32))) r_0 17 q1) 23 (ix (4 : Int32)) (ix (4 : Int32))) r_0 18 q2) 21 (ix (294175 : Int32)) (ix (294175 : Int32))) r_0 23 q3) 21 (ix (144 : Int32)) (ix (144 : Int32))) r_0 25 q4) fun q5 =>
    L_M_new_281 d r_0 (sR (sN (sR (sN (sR (sN (sR (sN (sR (sN h 20 (ix (420 : Int32)) (ix (420 : Int32))) r_0 17 q1) 23 (ix (4 : Int32)) (ix (4 : Int32))) r_0 18 q2) 21 (ix (294175 : Int32)) (ix (294175 : Int32))) r_0 23 q3) 21 (ix (144 : Int32)) (ix (144 : Int32))) r_0 25 q4) 21 (ix (144 : Int32)) (ix (144 : Int32))) r_0 26 q5)) none) none) none) none) none := (evs_xpd _ tx_M_new [196, 239, 281, 324, 361] 211 _).trans rfl
set_option maxRecDepth 100000 in
theorem e_M_new_281 (d : Nat) (r_0 : Nat) (h : Hp) : L_M_new_281 d r_0 h =
    ifp (inb (144 : Int32) 1000000 = true) (
    alc h fun q1 =>
    ifp (inb (144 : Int32) 1000000 = true) (
    alc (sR (sN h 21 (ix (144 : Int32)) (ix (144 : Int32))) r_0 27 q1) fun q2 =>
    ifp (inb (41 : Int32) 1000000 = true) (
    alc (sR (sN (sR (sN h 21 (ix (144 : Int32)) (ix (144 : Int32))) r_0 27 q1) 21 (ix (144 : Int32)) (ix (144 : Int32))) r_0 28 q2) fun q3 =>
    ifp (inb (625 : Int32) 1000000 = true) (
    alc (sR (sN (sR (sN (sR (sN h 21 (ix (144 : Int32)) (ix (144 : Int32))) r_0 27 q1) 21 (ix (144 : Int32)) (ix (144 : Int32))) r_0 28 q2) 21 (ix (41 : Int32)) (ix (41 : Int32))) r_0 29 q3) fun q4 =>
    ifp (inb (41 : Int32) 1000000 = true) (
    alc (sR (sN (sR (sN (sR (sN (sR (sN h 21 (ix (144 : Int32)) (ix (144 : Int32))) r_0 27 q1) 21 (ix (144 : Int32)) (ix (144 : Int32))) r_0 28 q2) 21 (ix (41 : Int32)) (ix (41 : Int32))) r_0 29 q3) 21 (ix (625 : Int32)) (ix (625 : Int32))) r_0 31 q4) fun q5 =>
    L_M_new_324 d r_0 (sR (sN (sR (sN (sR (sN (sR (sN (sR (sN h 21 (ix (144 : Int32)) (ix (144 : Int32))) r_0 27 q1) 21 (ix (144 : Int32)) (ix (144 : Int32))) r_0 28 q2) 21 (ix (41 : Int32)) (ix (41 : Int32))) r_0 29 q3) 21 (ix (625 : Int32)) (ix (625 : Int32))) r_0 31 q4) 20 (ix (41 : Int32)) (ix (41 : Int32))) r_0 32 q5)) none) none) none) none) none := (evs_xpd _ tx_M_new [196, 239, 281, 324, 361] 211 _).trans rfl
set_option maxRecDepth 100000 in
theorem e_M_new_324 (d : Nat) (r_0 : Nat) (h : Hp) : L_M_new_324 d r_0 h =
    ifp (inb (1681 : Int32) 1000000 = true) (
    alc h fun q1 =>
    ifp (inb (41 : Int32) 1000000 = true) (
    alc (sR (sN h 23 (ix (1681 : Int32)) (ix (1681 : Int32))) r_0 33 q1) fun q2 =>
    ifp (inb (41 : Int32) 1000000 = true) (
    alc (sR (sN (sR (sN h 23 (ix (1681 : Int32)) (ix (1681 : Int32))) r_0 33 q1) 20 (ix (41 : Int32)) (ix (41 : Int32))) r_0 34 q2) fun q3 =>
    bV (evm d 155 [vR 12 r_0, vI (0 : Int32)] (sR (sN (sR (sN (sR (sN h 23 (ix (1681 : Int32)) (ix (1681 : Int32))) r_0 33 q1) 20 (ix (41 : Int32)) (ix (41 : Int32))) r_0 34 q2) 23 (ix (41 : Int32)) (ix (41 : Int32))) r_0 35 q3)) fun h4 =>
    bR (hR h4 r_0 10) fun r5 =>
    ifp (inb (0 : Int32) (hN h4 r5) = true) (
    L_M_new_361 d r_0 (sI h4 r5 (ix (0 : Int32)) (1 : Int32))) none) none) none) none := (evs_xpd _ tx_M_new [196, 239, 281, 324, 361] 211 _).trans rfl
set_option maxRecDepth 100000 in
theorem e_M_new_361 (d : Nat) (r_0 : Nat) (h : Hp) : L_M_new_361 d r_0 h =
    bR (hR h r_0 10) fun r1 =>
    ifp (inb (8 : Int32) (hN h r1) = true) (
    bR (hR (sI h r1 (ix (8 : Int32)) (2 : Int32)) r_0 10) fun r2 =>
    ifp (inb (9 : Int32) (hN (sI h r1 (ix (8 : Int32)) (2 : Int32)) r2) = true) (
    bR (hR (sI (sI h r1 (ix (8 : Int32)) (2 : Int32)) r2 (ix (9 : Int32)) (1 : Int32)) r_0 10) fun r3 =>
    ifp (inb (10 : Int32) (hN (sI (sI h r1 (ix (8 : Int32)) (2 : Int32)) r2 (ix (9 : Int32)) (1 : Int32)) r3) = true) (
    some (none, sI (sI (sI h r1 (ix (8 : Int32)) (2 : Int32)) r2 (ix (9 : Int32)) (1 : Int32)) r3 (ix (10 : Int32)) (2 : Int32))) none) none) none := (evs_xpd _ tx_M_new [196, 239, 281, 324, 361] 211 _).trans rfl
set_option maxRecDepth 100000 in
theorem e_M_new (d : Nat) (r_0 : Nat) (h : Hp) : evm (d + 1) 141 [vR 12 r_0] h =
    ifp (inb (1000 : Int32) 1000000 = true) (
    alc h fun q1 =>
    ifp (inb (1002 : Int32) 1000000 = true) (
    alc (sR (sN h 20 (ix (1000 : Int32)) (ix (1000 : Int32))) r_0 1 q1) fun q2 =>
    ifp (inb (1002 : Int32) 1000000 = true) (
    alc (sR (sN (sR (sN h 20 (ix (1000 : Int32)) (ix (1000 : Int32))) r_0 1 q1) 20 (ix (1002 : Int32)) (ix (1002 : Int32))) r_0 4 q2) fun q3 =>
    ifp (inb (1002 : Int32) 1000000 = true) (
    alc (sR (sN (sR (sN (sR (sN h 20 (ix (1000 : Int32)) (ix (1000 : Int32))) r_0 1 q1) 20 (ix (1002 : Int32)) (ix (1002 : Int32))) r_0 4 q2) 20 (ix (1002 : Int32)) (ix (1002 : Int32))) r_0 5 q3) fun q4 =>
    ifp (inb (22 : Int32) 1000000 = true) (
    alc (sR (sN (sR (sN (sR (sN (sR (sN h 20 (ix (1000 : Int32)) (ix (1000 : Int32))) r_0 1 q1) 20 (ix (1002 : Int32)) (ix (1002 : Int32))) r_0 4 q2) 20 (ix (1002 : Int32)) (ix (1002 : Int32))) r_0 5 q3) 21 (ix (1002 : Int32)) (ix (1002 : Int32))) r_0 6 q4) fun q5 =>
    ifp (inb (0 : Int32) (hN (sN (sR (sN (sR (sN (sR (sN (sR (sN h 20 (ix (1000 : Int32)) (ix (1000 : Int32))) r_0 1 q1) 20 (ix (1002 : Int32)) (ix (1002 : Int32))) r_0 4 q2) 20 (ix (1002 : Int32)) (ix (1002 : Int32))) r_0 5 q3) 21 (ix (1002 : Int32)) (ix (1002 : Int32))) r_0 6 q4) 21 (ix (22 : Int32)) (ix (22 : Int32))) q5) = true) (
    ifp (inb (1 : Int32) (hN (sL (sN (sR (sN (sR (sN (sR (sN (sR (sN h 20 (ix (1000 : Int32)) (ix (1000 : Int32))) r_0 1 q1) 20 (ix (1002 : Int32)) (ix (1002 : Int32))) r_0 4 q2) 20 (ix (1002 : Int32)) (ix (1002 : Int32))) r_0 5 q3) 21 (ix (1002 : Int32)) (ix (1002 : Int32))) r_0 6 q4) 21 (ix (22 : Int32)) (ix (22 : Int32))) q5 (ix (0 : Int32)) (36623839 : Int64)) q5) = true) (
    ifp (inb (2 : Int32) (hN (sL (sL (sN (sR (sN (sR (sN (sR (sN (sR (sN h 20 (ix (1000 : Int32)) (ix (1000 : Int32))) r_0 1 q1) 20 (ix (1002 : Int32)) (ix (1002 : Int32))) r_0 4 q2) 20 (ix (1002 : Int32)) (ix (1002 : Int32))) r_0 5 q3) 21 (ix (1002 : Int32)) (ix (1002 : Int32))) r_0 6 q4) 21 (ix (22 : Int32)) (ix (22 : Int32))) q5 (ix (0 : Int32)) (36623839 : Int64)) q5 (ix (1 : Int32)) (50169877366 : Int64)) q5) = true) (
    ifp (inb (3 : Int32) (hN (sL (sL (sL (sN (sR (sN (sR (sN (sR (sN (sR (sN h 20 (ix (1000 : Int32)) (ix (1000 : Int32))) r_0 1 q1) 20 (ix (1002 : Int32)) (ix (1002 : Int32))) r_0 4 q2) 20 (ix (1002 : Int32)) (ix (1002 : Int32))) r_0 5 q3) 21 (ix (1002 : Int32)) (ix (1002 : Int32))) r_0 6 q4) 21 (ix (22 : Int32)) (ix (22 : Int32))) q5 (ix (0 : Int32)) (36623839 : Int64)) q5 (ix (1 : Int32)) (50169877366 : Int64)) q5 (ix (2 : Int32)) (173197865 : Int64)) q5) = true) (
    ifp (inb (4 : Int32) (hN (sL (sL (sL (sL (sN (sR (sN (sR (sN (sR (sN (sR (sN h 20 (ix (1000 : Int32)) (ix (1000 : Int32))) r_0 1 q1) 20 (ix (1002 : Int32)) (ix (1002 : Int32))) r_0 4 q2) 20 (ix (1002 : Int32)) (ix (1002 : Int32))) r_0 5 q3) 21 (ix (1002 : Int32)) (ix (1002 : Int32))) r_0 6 q4) 21 (ix (22 : Int32)) (ix (22 : Int32))) q5 (ix (0 : Int32)) (36623839 : Int64)) q5 (ix (1 : Int32)) (50169877366 : Int64)) q5 (ix (2 : Int32)) (173197865 : Int64)) q5 (ix (3 : Int32)) (6541130 : Int64)) q5) = true) (
    ifp (inb (5 : Int32) (hN (sL (sL (sL (sL (sL (sN (sR (sN (sR (sN (sR (sN (sR (sN h 20 (ix (1000 : Int32)) (ix (1000 : Int32))) r_0 1 q1) 20 (ix (1002 : Int32)) (ix (1002 : Int32))) r_0 4 q2) 20 (ix (1002 : Int32)) (ix (1002 : Int32))) r_0 5 q3) 21 (ix (1002 : Int32)) (ix (1002 : Int32))) r_0 6 q4) 21 (ix (22 : Int32)) (ix (22 : Int32))) q5 (ix (0 : Int32)) (36623839 : Int64)) q5 (ix (1 : Int32)) (50169877366 : Int64)) q5 (ix (2 : Int32)) (173197865 : Int64)) q5 (ix (3 : Int32)) (6541130 : Int64)) q5 (ix (4 : Int32)) (242021829 : Int64)) q5) = true) (
    ifp (inb (6 : Int32) (hN (sL (sL (sL (sL (sL (sL (sN (sR (sN (sR (sN (sR (sN (sR (sN h 20 (ix (1000 : Int32)) (ix (1000 : Int32))) r_0 1 q1) 20 (ix (1002 : Int32)) (ix (1002 : Int32))) r_0 4 q2) 20 (ix (1002 : Int32)) (ix (1002 : Int32))) r_0 5 q3) 21 (ix (1002 : Int32)) (ix (1002 : Int32))) r_0 6 q4) 21 (ix (22 : Int32)) (ix (22 : Int32))) q5 (ix (0 : Int32)) (36623839 : Int64)) q5 (ix (1 : Int32)) (50169877366 : Int64)) q5 (ix (2 : Int32)) (173197865 : Int64)) q5 (ix (3 : Int32)) (6541130 : Int64)) q5 (ix (4 : Int32)) (242021829 : Int64)) q5 (ix (5 : Int32)) (30884514577 : Int64)) q5) = true) (
    ifp (inb (7 : Int32) (hN (sL (sL (sL (sL (sL (sL (sL (sN (sR (sN (sR (sN (sR (sN (sR (sN h 20 (ix (1000 : Int32)) (ix (1000 : Int32))) r_0 1 q1) 20 (ix (1002 : Int32)) (ix (1002 : Int32))) r_0 4 q2) 20 (ix (1002 : Int32)) (ix (1002 : Int32))) r_0 5 q3) 21 (ix (1002 : Int32)) (ix (1002 : Int32))) r_0 6 q4) 21 (ix (22 : Int32)) (ix (22 : Int32))) q5 (ix (0 : Int32)) (36623839 : Int64)) q5 (ix (1 : Int32)) (50169877366 : Int64)) q5 (ix (2 : Int32)) (173197865 : Int64)) q5 (ix (3 : Int32)) (6541130 : Int64)) q5 (ix (4 : Int32)) (242021829 : Int64)) q5 (ix (5 : Int32)) (30884514577 : Int64)) q5 (ix (6 : Int32)) (2793 : Int64)) q5) = true) (
    ifp (inb (8 : Int32) (hN (sL (sL (sL (sL (sL (sL (sL (sL (sN (sR (sN (sR (sN (sR (sN (sR (sN h 20 (ix (1000 : Int32)) (ix (1000 : Int32))) r_0 1 q1) 20 (ix (1002 : Int32)) (ix (1002 : Int32))) r_0 4 q2) 20 (ix (1002 : Int32)) (ix (1002 : Int32))) r_0 5 q3) 21 (ix (1002 : Int32)) (ix (1002 : Int32))) r_0 6 q4) 21 (ix (22 : Int32)) (ix (22 : Int32))) q5 (ix (0 : Int32)) (36623839 : Int64)) q5 (ix (1 : Int32)) (50169877366 : Int64)) q5 (ix (2 : Int32)) (173197865 : Int64)) q5 (ix (3 : Int32)) (6541130 : Int64)) q5 (ix (4 : Int32)) (242021829 : Int64)) q5 (ix (5 : Int32)) (30884514577 : Int64)) q5 (ix (6 : Int32)) (2793 : Int64)) q5 (ix (7 : Int32)) (325028 : Int64)) q5) = true) (
    ifp (inb (9 : Int32) (hN (sL (sL (sL (sL (sL (sL (sL (sL (sL (sN (sR (sN (sR (sN (sR (sN (sR (sN h 20 (ix (1000 : Int32)) (ix (1000 : Int32))) r_0 1 q1) 20 (ix (1002 : Int32)) (ix (1002 : Int32))) r_0 4 q2) 20 (ix (1002 : Int32)) (ix (1002 : Int32))) r_0 5 q3) 21 (ix (1002 : Int32)) (ix (1002 : Int32))) r_0 6 q4) 21 (ix (22 : Int32)) (ix (22 : Int32))) q5 (ix (0 : Int32)) (36623839 : Int64)) q5 (ix (1 : Int32)) (50169877366 : Int64)) q5 (ix (2 : Int32)) (173197865 : Int64)) q5 (ix (3 : Int32)) (6541130 : Int64)) q5 (ix (4 : Int32)) (242021829 : Int64)) q5 (ix (5 : Int32)) (30884514577 : Int64)) q5 (ix (6 : Int32)) (2793 : Int64)) q5 (ix (7 : Int32)) (325028 : Int64)) q5 (ix (8 : Int32)) (614923 : Int64)) q5) = true) (
    ifp (inb (10 : Int32) (hN (sL (sL (sL (sL (sL (sL (sL (sL (sL (sL (sN (sR (sN (sR (sN (sR (sN (sR (sN h 20 (ix (1000 : Int32)) (ix (1000 : Int32))) r_0 1 q1) 20 (ix (1002 : Int32)) (ix (1002 : Int32))) r_0 4 q2) 20 (ix (1002 : Int32)) (ix (1002 : Int32))) r_0 5 q3) 21 (ix (1002 : Int32)) (ix (1002 : Int32))) r_0 6 q4) 21 (ix (22 : Int32)) (ix (22 : Int32))) q5 (ix (0 : Int32)) (36623839 : Int64)) q5 (ix (1 : Int32)) (50169877366 : Int64)) q5 (ix (2 : Int32)) (173197865 : Int64)) q5 (ix (3 : Int32)) (6541130 : Int64)) q5 (ix (4 : Int32)) (242021829 : Int64)) q5 (ix (5 : Int32)) (30884514577 : Int64)) q5 (ix (6 : Int32)) (2793 : Int64)) q5 (ix (7 : Int32)) (325028 : Int64)) q5 (ix (8 : Int32)) (614923 : Int64)) q5 (ix (9 : Int32)) (34200674 : Int64)) q5) = true) (
    ifp (inb (11 : Int32) (hN (sL (sL (sL (sL (sL (sL (sL (sL (sL (sL (sL (sN (sR (sN (sR (sN (sR (sN (sR (sN h 20 (ix (1000 : Int32)) (ix (1000 : Int32))) r_0 1 q1) 20 (ix (1002 : Int32)) (ix (1002 : Int32))) r_0 4 q2) 20 (ix (1002 : Int32)) (ix (1002 : Int32))) r_0 5 q3) 21 (ix (1002 : Int32)) (ix (1002 : Int32))) r_0 6 q4) 21 (ix (22 : Int32)) (ix (22 : Int32))) q5 (ix (0 : Int32)) (36623839 : Int64)) q5 (ix (1 : Int32)) (50169877366 : Int64)) q5 (ix (2 : Int32)) (173197865 : Int64)) q5 (ix (3 : Int32)) (6541130 : Int64)) q5 (ix (4 : Int32)) (242021829 : Int64)) q5 (ix (5 : Int32)) (30884514577 : Int64)) q5 (ix (6 : Int32)) (2793 : Int64)) q5 (ix (7 : Int32)) (325028 : Int64)) q5 (ix (8 : Int32)) (614923 : Int64)) q5 (ix (9 : Int32)) (34200674 : Int64)) q5 (ix (10 : Int32)) (6411565 : Int64)) q5) = true) (
    ifp (inb (12 : Int32) (hN (sL (sL (sL (sL (sL (sL (sL (sL (sL (sL (sL (sL (sN (sR (sN (sR (sN (sR (sN (sR (sN h 20 (ix (1000 : Int32)) (ix (1000 : Int32))) r_0 1 q1) 20 (ix (1002 : Int32)) (ix (1002 : Int32))) r_0 4 q2) 20 (ix (1002 : Int32)) (ix (1002 : Int32))) r_0 5 q3) 21 (ix (1002 : Int32)) (ix (1002 : Int32))) r_0 6 q4) 21 (ix (22 : Int32)) (ix (22 : Int32))) q5 (ix (0 : Int32)) (36623839 : Int64)) q5 (ix (1 : Int32)) (50169877366 : Int64)) q5 (ix (2 : Int32)) (173197865 : Int64)) q5 (ix (3 : Int32)) (6541130 : Int64)) q5 (ix (4 : Int32)) (242021829 : Int64)) q5 (ix (5 : Int32)) (30884514577 : Int64)) q5 (ix (6 : Int32)) (2793 : Int64)) q5 (ix (7 : Int32)) (325028 : Int64)) q5 (ix (8 : Int32)) (614923 : Int64)) q5 (ix (9 : Int32)) (34200674 : Int64)) q5 (ix (10 : Int32)) (6411565 : Int64)) q5 (ix (11 : Int32)) (755 : Int64)) q5) = true) (
    ifp (inb (13 : Int32) (hN (sL (sL (sL (sL (sL (sL (sL (sL (sL (sL (sL (sL (sL (sN (sR (sN (sR (sN (sR (sN (sR (sN h 20 (ix (1000 : Int32)) (ix (1000 : Int32))) r_0 1 q1) 20 (ix (1002 : Int32)) (ix (1002 : Int32))) r_0 4 q2) 20 (ix (1002 : Int32)) (ix (1002 : Int32))) r_0 5 q3) 21 (ix (1002 : Int32)) (ix (1002 : Int32))) r_0 6 q4) 21 (ix (22 : Int32)) (ix (22 : Int32))) q5 (ix (0 : Int32)) (36623839 : Int64)) q5 (ix (1 : Int32)) (50169877366 : Int64)) q5 (ix (2 : Int32)) (173197865 : Int64)) q5 (ix (3 : Int32)) (6541130 : Int64)) q5 (ix (4 : Int32)) (242021829 : Int64)) q5 (ix (5 : Int32)) (30884514577 : Int64)) q5 (ix (6 : Int32)) (2793 : Int64)) q5 (ix (7 : Int32)) (325028 : Int64)) q5 (ix (8 : Int32)) (614923 : Int64)) q5 (ix (9 : Int32)) (34200674 : Int64)) q5 (ix (10 : Int32)) (6411565 : Int64)) q5 (ix (11 : Int32)) (755 : Int64)) q5 (ix (12 : Int32)) (14037783 : Int64)) q5) = true) (
    ifp (inb (14 : Int32) (hN (sL (sL (sL (sL (sL (sL (sL (sL (sL (sL (sL (sL (sL (sL (sN (sR (sN (sR (sN (sR (sN (sR (sN h 20 (ix (1000 : Int32)) (ix (1000 : Int32))) r_0 1 q1) 20 (ix (1002 : Int32)) (ix (1002 : Int32))) r_0 4 q2) 20 (ix (1002 : Int32)) (ix (1002 : Int32))) r_0 5 q3) 21 (ix (1002 : Int32)) (ix (1002 : Int32))) r_0 6 q4) 21 (ix (22 : Int32)) (ix (22 : Int32))) q5 (ix (0 : Int32)) (36623839 : Int64)) q5 (ix (1 : Int32)) (50169877366 : Int64)) q5 (ix (2 : Int32)) (173197865 : Int64)) q5 (ix (3 : Int32)) (6541130 : Int64)) q5 (ix (4 : Int32)) (242021829 : Int64)) q5 (ix (5 : Int32)) (30884514577 : Int64)) q5 (ix (6 : Int32)) (2793 : Int64)) q5 (ix (7 : Int32)) (325028 : Int64)) q5 (ix (8 : Int32)) (614923 : Int64)) q5 (ix (9 : Int32)) (34200674 : Int64)) q5 (ix (10 : Int32)) (6411565 : Int64)) q5 (ix (11 : Int32)) (755 : Int64)) q5 (ix (12 : Int32)) (14037783 : Int64)) q5 (ix (13 : Int32)) (37957098 : Int64)) q5) = true) (
    ifp (inb (15 : Int32) (hN (sL (sL (sL (sL (sL (sL (sL (sL (sL (sL (sL (sL (sL (sL (sL (sN (sR (sN (sR (sN (sR (sN (sR (sN h 20 (ix (1000 : Int32)) (ix (1000 : Int32))) r_0 1 q1) 20 (ix (1002 : Int32)) (ix (1002 : Int32))) r_0 4 q2) 20 (ix (1002 : Int32)) (ix (1002 : Int32))) r_0 5 q3) 21 (ix (1002 : Int32)) (ix (1002 : Int32))) r_0 6 q4) 21 (ix (22 : Int32)) (ix (22 : Int32))) q5 (ix (0 : Int32)) (36623839 : Int64)) q5 (ix (1 : Int32)) (50169877366 : Int64)) q5 (ix (2 : Int32)) (173197865 : Int64)) q5 (ix (3 : Int32)) (6541130 : Int64)) q5 (ix (4 : Int32)) (242021829 : Int64)) q5 (ix (5 : Int32)) (30884514577 : Int64)) q5 (ix (6 : Int32)) (2793 : Int64)) q5 (ix (7 : Int32)) (325028 : Int64)) q5 (ix (8 : Int32)) (614923 : Int64)) q5 (ix (9 : Int32)) (34200674 : Int64)) q5 (ix (10 : Int32)) (6411565 : Int64)) q5 (ix (11 : Int32)) (755 : Int64)) q5 (ix (12 : Int32)) (14037783 : Int64)) q5 (ix (13 : Int32)) (37957098 : Int64)) q5 (ix (14 : Int32)) (679583 : Int64)) q5) = true) (
    ifp (inb (16 : Int32) (hN (sL (sL (sL (sL (sL (sL (sL (sL (sL (sL (sL (sL (sL (sL (sL (sL (sN (sR (sN (sR (sN (sR (sN (sR (sN h 20 (ix (1000 : Int32)) (ix (1000 : Int32))) r_0 1 q1) 20 (ix (1002 : Int32)) (ix (1002 : Int32))) r_0 4 q2) 20 (ix (1002 : Int32)) (ix (1002 : Int32))) r_0 5 q3) 21 (ix (1002 : Int32)) (ix (1002 : Int32))) r_0 6 q4) 21 (ix (22 : Int32)) (ix (22 : Int32))) q5 (ix (0 : Int32)) (36623839 : Int64)) q5 (ix (1 : Int32)) (50169877366 : Int64)) q5 (ix (2 : Int32)) (173197865 : Int64)) q5 (ix (3 : Int32)) (6541130 : Int64)) q5 (ix (4 : Int32)) (242021829 : Int64)) q5 (ix (5 : Int32)) (30884514577 : Int64)) q5 (ix (6 : Int32)) (2793 : Int64)) q5 (ix (7 : Int32)) (325028 : Int64)) q5 (ix (8 : Int32)) (614923 : Int64)) q5 (ix (9 : Int32)) (34200674 : Int64)) q5 (ix (10 : Int32)) (6411565 : Int64)) q5 (ix (11 : Int32)) (755 : Int64)) q5 (ix (12 : Int32)) (14037783 : Int64)) q5 (ix (13 : Int32)) (37957098 : Int64)) q5 (ix (14 : Int32)) (679583 : Int64)) q5 (ix (15 : Int32)) (19741 : Int64)) q5) = true) (
    ifp (inb (17 : Int32) (hN (sL (sL (sL (sL (sL (sL (sL (sL (sL (sL (sL (sL (sL (sL (sL (sL (sL (sN (sR (sN (sR (sN (sR (sN (sR (sN h 20 (ix (1000 : Int32)) (ix (1000 : Int32))) r_0 1 q1) 20 (ix (1002 : Int32)) (ix (1002 : Int32))) r_0 4 q2) 20 (ix (1002 : Int32)) (ix (1002 : Int32))) r_0 5 q3) 21 (ix (1002 : Int32)) (ix (1002 : Int32))) r_0 6 q4) 21 (ix (22 : Int32)) (ix (22 : Int32))) q5 (ix (0 : Int32)) (36623839 : Int64)) q5 (ix (1 : Int32)) (50169877366 : Int64)) q5 (ix (2 : Int32)) (173197865 : Int64)) q5 (ix (3 : Int32)) (6541130 : Int64)) q5 (ix (4 : Int32)) (242021829 : Int64)) q5 (ix (5 : Int32)) (30884514577 : Int64)) q5 (ix (6 : Int32)) (2793 : Int64)) q5 (ix (7 : Int32)) (325028 : Int64)) q5 (ix (8 : Int32)) (614923 : Int64)) q5 (ix (9 : Int32)) (34200674 : Int64)) q5 (ix (10 : Int32)) (6411565 : Int64)) q5 (ix (11 : Int32)) (755 : Int64)) q5 (ix (12 : Int32)) (14037783 : Int64)) q5 (ix (13 : Int32)) (37957098 : Int64)) q5 (ix (14 : Int32)) (679583 : Int64)) q5 (ix (15 : Int32)) (19741 : Int64)) q5 (ix (16 : Int32)) (1891 : Int64)) q5) = true) (
    ifp (inb (18 : Int32) (hN (sL (sL (sL (sL (sL (sL (sL (sL (sL (sL (sL (sL (sL (sL (sL (sL (sL (sL (sN (sR (sN (sR (sN (sR (sN (sR (sN h 20 (ix (1000 : Int32)) (ix (1000 : Int32))) r_0 1 q1) 20 (ix (1002 : Int32)) (ix (1002 : Int32))) r_0 4 q2) 20 (ix (1002 : Int32)) (ix (1002 : Int32))) r_0 5 q3) 21 (ix (1002 : Int32)) (ix (1002 : Int32))) r_0 6 q4) 21 (ix (22 : Int32)) (ix (22 : Int32))) q5 (ix (0 : Int32)) (36623839 : Int64)) q5 (ix (1 : Int32)) (50169877366 : Int64)) q5 (ix (2 : Int32)) (173197865 : Int64)) q5 (ix (3 : Int32)) (6541130 : Int64)) q5 (ix (4 : Int32)) (242021829 : Int64)) q5 (ix (5 : Int32)) (30884514577 : Int64)) q5 (ix (6 : Int32)) (2793 : Int64)) q5 (ix (7 : Int32)) (325028 : Int64)) q5 (ix (8 : Int32)) (614923 : Int64)) q5 (ix (9 : Int32)) (34200674 : Int64)) q5 (ix (10 : Int32)) (6411565 : Int64)) q5 (ix (11 : Int32)) (755 : Int64)) q5 (ix (12 : Int32)) (14037783 : Int64)) q5 (ix (13 : Int32)) (37957098 : Int64)) q5 (ix (14 : Int32)) (679583 : Int64)) q5 (ix (15 : Int32)) (19741 : Int64)) q5 (ix (16 : Int32)) (1891 : Int64)) q5 (ix (17 : Int32)) (573 : Int64)) q5) = true) (
    ifp (inb (19 : Int32) (hN (sL (sL (sL (sL (sL (sL (sL (sL (sL (sL (sL (sL (sL (sL (sL (sL (sL (sL (sL (sN (sR (sN (sR (sN (sR (sN (sR (sN h 20 (ix (1000 : Int32)) (ix (1000 : Int32))) r_0 1 q1) 20 (ix (1002 : Int32)) (ix (1002 : Int32))) r_0 4 q2) 20 (ix (1002 : Int32)) (ix (1002 : Int32))) r_0 5 q3) 21 (ix (1002 : Int32)) (ix (1002 : Int32))) r_0 6 q4) 21 (ix (22 : Int32)) (ix (22 : Int32))) q5 (ix (0 : Int32)) (36623839 : Int64)) q5 (ix (1 : Int32)) (50169877366 : Int64)) q5 (ix (2 : Int32)) (173197865 : Int64)) q5 (ix (3 : Int32)) (6541130 : Int64)) q5 (ix (4 : Int32)) (242021829 : Int64)) q5 (ix (5 : Int32)) (30884514577 : Int64)) q5 (ix (6 : Int32)) (2793 : Int64)) q5 (ix (7 : Int32)) (325028 : Int64)) q5 (ix (8 : Int32)) (614923 : Int64)) q5 (ix (9 : Int32)) (34200674 : Int64)) q5 (ix (10 : Int32)) (6411565 : Int64)) q5 (ix (11 : Int32)) (755 : Int64)) q5 (ix (12 : Int32)) (14037783 : Int64)) q5 (ix (13 : Int32)) (37957098 : Int64)) q5 (ix (14 : Int32)) (679583 : Int64)) q5 (ix (15 : Int32)) (19741 : Int64)) q5 (ix (16 : Int32)) (1891 : Int64)) q5 (ix (17 : Int32)) (573 : Int64)) q5 (ix (18 : Int32)) (1355942631 : Int64)) q5) = true) (
    ifp (inb (20 : Int32) (hN (sL (sL (sL (sL (sL (sL (sL (sL (sL (sL (sL (sL (sL (sL (sL (sL (sL (sL (sL (sL (sN (sR (sN (sR (sN (sR (sN (sR (sN h 20 (ix (1000 : Int32)) (ix (1000 : Int32))) r_0 1 q1) 20 (ix (1002 : Int32)) (ix (1002 : Int32))) r_0 4 q2) 20 (ix (1002 : Int32)) (ix (1002 : Int32))) r_0 5 q3) 21 (ix (1002 : Int32)) (ix (1002 : Int32))) r_0 6 q4) 21 (ix (22 : Int32)) (ix (22 : Int32))) q5 (ix (0 : Int32)) (36623839 : Int64)) q5 (ix (1 : Int32)) (50169877366 : Int64)) q5 (ix (2 : Int32)) (173197865 : Int64)) q5 (ix (3 : Int32)) (6541130 : Int64)) q5 (ix (4 : Int32)) (242021829 : Int64)) q5 (ix (5 : Int32)) (30884514577 : Int64)) q5 (ix (6 : Int32)) (2793 : Int64)) q5 (ix (7 : Int32)) (325028 : Int64)) q5 (ix (8 : Int32)) (614923 : Int64)) q5 (ix (9 : Int32)) (34200674 : Int64)) q5 (ix (10 : Int32)) (6411565 : Int64)) q5 (ix (11 : Int32)) (755 : Int64)) q5 (ix (12 : Int32)) (14037783 : Int64)) q5 (ix (13 : Int32)) (37957098 : Int64)) q5 (ix (14 : Int32)) (679583 : Int64)) q5 (ix (15 : Int32)) (19741 : Int64)) q5 (ix (16 : Int32)) (1891 : Int64)) q5 (ix (17 : Int32)) (573 : Int64)) q5 (ix (18 : Int32)) (1355942631 : Int64)) q5 (ix (19 : Int32)) (609928 : Int64)) q5) = true) (
    ifp (inb (21 : Int32) (hN (sL (sL (sL (sL (sL (sL (sL (sL (sL (sL (sL (sL (sL (sL (sL (sL (sL (sL (sL (sL (sL (sN (sR (sN (sR (sN (sR (sN (sR (sN h 20 (ix (1000 : Int32)) (ix (1000 : Int32))) r_0 1 q1) 20 (ix (1002 : Int32)) (ix (1002 : Int32))) r_0 4 q2) 20 (ix (1002 : Int32)) (ix (1002 : Int32))) r_0 5 q3) 21 (ix (1002 : Int32)) (ix (1002 : Int32))) r_0 6 q4) 21 (ix (22 : Int32)) (ix (22 : Int32))) q5 (ix (0 : Int32)) (36623839 : Int64)) q5 (ix (1 : Int32)) (50169877366 : Int64)) q5 (ix (2 : Int32)) (173197865 : Int64)) q5 (ix (3 : Int32)) (6541130 : Int64)) q5 (ix (4 : Int32)) (242021829 : Int64)) q5 (ix (5 : Int32)) (30884514577 : Int64)) q5 (ix (6 : Int32)) (2793 : Int64)) q5 (ix (7 : Int32)) (325028 : Int64)) q5 (ix (8 : Int32)) (614923 : Int64)) q5 (ix (9 : Int32)) (34200674 : Int64)) q5 (ix (10 : Int32)) (6411565 : Int64)) q5 (ix (11 : Int32)) (755 : Int64)) q5 (ix (12 : Int32)) (14037783 : Int64)) q5 (ix (13 : Int32)) (37957098 : Int64)) q5 (ix (14 : Int32)) (679583 : Int64)) q5 (ix (15 : Int32)) (19741 : Int64)) q5 (ix (16 : Int32)) (1891 : Int64)) q5 (ix (17 : Int32)) (573 : Int64)) q5 (ix (18 : Int32)) (1355942631 : Int64)) q5 (ix (19 : Int32)) (609928 : Int64)) q5 (ix (20 : Int32)) (989988 : Int64)) q5) = true) (
    L_M_new_196 d r_0 (sR (sL (sL (sL (sL (sL (sL (sL (sL (sL (sL (sL (sL (sL (sL (sL (sL (sL (sL (sL (sL (sL (sL (sN (sR (sN (sR (sN (sR (sN (sR (sN h 20 (ix (1000 : Int32)) (ix (1000 : Int32))) r_0 1 q1) 20 (ix (1002 : Int32)) (ix (1002 : Int32))) r_0 4 q2) 20 (ix (1002 : Int32)) (ix (1002 : Int32))) r_0 5 q3) 21 (ix (1002 : Int32)) (ix (1002 : Int32))) r_0 6 q4) 21 (ix (22 : Int32)) (ix (22 : Int32))) q5 (ix (0 : Int32)) (36623839 : Int64)) q5 (ix (1 : Int32)) (50169877366 : Int64)) q5 (ix (2 : Int32)) (173197865 : Int64)) q5 (ix (3 : Int32)) (6541130 : Int64)) q5 (ix (4 : Int32)) (242021829 : Int64)) q5 (ix (5 : Int32)) (30884514577 : Int64)) q5 (ix (6 : Int32)) (2793 : Int64)) q5 (ix (7 : Int32)) (325028 : Int64)) q5 (ix (8 : Int32)) (614923 : Int64)) q5 (ix (9 : Int32)) (34200674 : Int64)) q5 (ix (10 : Int32)) (6411565 : Int64)) q5 (ix (11 : Int32)) (755 : Int64)) q5 (ix (12 : Int32)) (14037783 : Int64)) q5 (ix (13 : Int32)) (37957098 : Int64)) q5 (ix (14 : Int32)) (679583 : Int64)) q5 (ix (15 : Int32)) (19741 : Int64)) q5 (ix (16 : Int32)) (1891 : Int64)) q5 (ix (17 : Int32)) (573 : Int64)) q5 (ix (18 : Int32)) (1355942631 : Int64)) q5 (ix (19 : Int32)) (609928 : Int64)) q5 (ix (20 : Int32)) (989988 : Int64)) q5 (ix (21 : Int32)) (37549131 : Int64)) r_0 9 q5)) none) none) none) none) none) none) none) none) none) none) none) none) none) none) none) none) none) none) none) none) none) none) none) none) none) none) none := (evs_xpd _ tx_M_new [196, 239, 281, 324, 361] 211 _).trans rfl
set_option maxRecDepth 100000 in
theorem e_M_isLetter (d : Nat) (x_0 : Int32) (h : Hp) : evm (d + 1) 142 [vI x_0] h =
    ifp (x_0 < (97 : Int32))
      (some (some (vI (0 : Int32)), h))
      (ifp ((122 : Int32) < x_0)
        (some (some (vI (0 : Int32)), h))
        (some (some (vI (1 : Int32)), h))) := (evs_xpd _ tx_M_isLetter [] 15 _).trans rfl
set_option maxRecDepth 100000 in
theorem e_M_isDigit (d : Nat) (x_0 : Int32) (h : Hp) : evm (d + 1) 143 [vI x_0] h =
    ifp (x_0 < (48 : Int32))
      (some (some (vI (0 : Int32)), h))
      (ifp ((57 : Int32) < x_0)
        (some (some (vI (0 : Int32)), h))
        (some (some (vI (1 : Int32)), h))) := (evs_xpd _ tx_M_isDigit [] 15 _).trans rfl
set_option maxRecDepth 100000 in
theorem e_M_rank (d : Nat) (x_0 : Int32) (h : Hp) : evm (d + 1) 144 [vI x_0] h =
    bI (evm d 142 [vI x_0] h) fun x2 h1 =>
    ifp (x2 = 0)
      (some (some (vI (x_0 - (21 : Int32))), h1))
      (some (some (vI (x_0 - (96 : Int32))), h1)) := (evs_xpd _ tx_M_rank [] 16 _).trans rfl
noncomputable def L_M_isSignOf_6 (d : Nat) (x_0 : Int32) (h : Hp) : Option Rs := evs (evm d) tx_M_isSignOf (6, [some (vI x_0)], [], h)
set_option maxRecDepth 100000 in
theorem e_M_isSignOf_6 (d : Nat) (x_0 : Int32) (h : Hp) : L_M_isSignOf_6 d x_0 h =
    ifp (x_0 = (41 : Int32))
      (some (some (vI (1 : Int32)), h))
      (ifp (x_0 = (59 : Int32))
        (some (some (vI (1 : Int32)), h))
        (ifp (x_0 = (61 : Int32))
          (some (some (vI (1 : Int32)), h))
          (ifp (x_0 = (60 : Int32))
            (some (some (vI (1 : Int32)), h))
            (ifp (x_0 = (43 : Int32))
              (some (some (vI (1 : Int32)), h))
              (ifp (x_0 = (45 : Int32))
                (some (some (vI (1 : Int32)), h))
                (ifp (x_0 = (42 : Int32))
                  (some (some (vI (1 : Int32)), h))
                  (some (some (vI (0 : Int32)), h)))))))) := (evs_xpd _ tx_M_isSignOf [6] 33 _).trans rfl
set_option maxRecDepth 100000 in
theorem e_M_isSignOf (d : Nat) (x_0 : Int32) (h : Hp) : evm (d + 1) 145 [vI x_0] h =
    ifp (x_0 = (40 : Int32))
      (some (some (vI (1 : Int32)), h))
      (L_M_isSignOf_6 d x_0 h) := (evs_xpd _ tx_M_isSignOf [6] 33 _).trans rfl
noncomputable def L_M_cutAll_17 (d : Nat) (r_0 : Nat) (x_1 : Int32) (x_2 : Int32) (h : Hp) : Option Rs := evs (evm d) tx_M_cutAll (17, [some (vR 12 r_0), some (vI x_1), some (vI x_2), none, none, none, none], [], h)
noncomputable def L_M_cutAll_25 (d : Nat) (r_0 : Nat) (x_1 : Int32) (x_2 : Int32) (h : Hp) : Option Rs := evs (evm d) tx_M_cutAll (25, [some (vR 12 r_0), some (vI x_1), some (vI x_2), none, none, none, none], [], h)
noncomputable def L_M_cutAll_70 (d : Nat) (r_0 : Nat) (x_1 : Int32) (x_2 : Int32) (x_4 : Int32) (y_5 : Int64) (h : Hp) : Option Rs := evs (evm d) tx_M_cutAll (70, [some (vR 12 r_0), some (vI x_1), some (vI x_2), none, some (vI x_4), some (vL y_5), none], [], h)
noncomputable def L_M_cutAll_129 (d : Nat) (r_0 : Nat) (x_1 : Int32) (x_2 : Int32) (x_4 : Int32) (y_5 : Int64) (h : Hp) : Option Rs := evs (evm d) tx_M_cutAll (129, [some (vR 12 r_0), some (vI x_1), some (vI x_2), none, some (vI x_4), some (vL y_5), none], [], h)
noncomputable def L_M_cutAll_148 (d : Nat) (r_0 : Nat) (x_1 : Int32) (x_2 : Int32) (y_5 : Int64) (xs0 : Int32) (xs1 : Int32) (rs2 : Nat) (h : Hp) : Option Rs := evs (evm d) tx_M_cutAll (148, [some (vR 12 r_0), some (vI x_1), some (vI x_2), none, none, some (vL y_5), none], [vI xs0, vI xs1, vR 20 rs2], h)
noncomputable def L_M_cutAll_159 (d : Nat) (r_0 : Nat) (x_1 : Int32) (x_2 : Int32) (x_4 : Int32) (y_5 : Int64) (h : Hp) : Option Rs := evs (evm d) tx_M_cutAll (159, [some (vR 12 r_0), some (vI x_1), some (vI x_2), none, some (vI x_4), some (vL y_5), none], [], h)
noncomputable def L_M_cutAll_218 (d : Nat) (r_0 : Nat) (x_1 : Int32) (x_2 : Int32) (x_4 : Int32) (y_5 : Int64) (h : Hp) : Option Rs := evs (evm d) tx_M_cutAll (218, [some (vR 12 r_0), some (vI x_1), some (vI x_2), none, some (vI x_4), some (vL y_5), none], [], h)
noncomputable def L_M_cutAll_236 (d : Nat) (r_0 : Nat) (x_1 : Int32) (x_2 : Int32) (y_5 : Int64) (xs0 : Int32) (xs1 : Int32) (rs2 : Nat) (h : Hp) : Option Rs := evs (evm d) tx_M_cutAll (236, [some (vR 12 r_0), some (vI x_1), some (vI x_2), none, none, some (vL y_5), none], [vI xs0, vI xs1, vR 20 rs2], h)
noncomputable def L_M_cutAll_261 (d : Nat) (r_0 : Nat) (x_1 : Int32) (x_2 : Int32) (y_5 : Int64) (xs0 : Int32) (xs1 : Int32) (rs2 : Nat) (h : Hp) : Option Rs := evs (evm d) tx_M_cutAll (261, [some (vR 12 r_0), some (vI x_1), some (vI x_2), none, none, some (vL y_5), none], [vI xs0, vI xs1, vR 20 rs2], h)
set_option maxRecDepth 100000 in
theorem e_M_cutAll_17 (d : Nat) (r_0 : Nat) (x_1 : Int32) (x_2 : Int32) (h : Hp) : L_M_cutAll_17 d r_0 x_1 x_2 h =
    ifp (x_2 < (hI h r_0 3))
      (L_M_cutAll_25 d r_0 x_1 x_2 h)
      (bR (hR h r_0 4) fun r1 =>
      ifp (inb x_1 (hN h r1) = true) (
      bR (hR (sI h r1 (ix x_1) (0 : Int32)) r_0 5) fun r2 =>
      ifp (inb x_1 (hN (sI h r1 (ix x_1) (0 : Int32)) r2) = true) (
      some (none, sI (sI (sI (sI h r1 (ix x_1) (0 : Int32)) r2 (ix x_1) (hI (sI h r1 (ix x_1) (0 : Int32)) r_0 3)) r_0 7 (0 : Int32)) r_0 8 (0 : Int32))) none) none) := (evs_xpd _ tx_M_cutAll [17, 25, 70, 129, 148, 159, 218, 236, 261] 174 _).trans rfl
set_option maxRecDepth 100000 in
theorem e_M_cutAll_25 (d : Nat) (r_0 : Nat) (x_1 : Int32) (x_2 : Int32) (h : Hp) : L_M_cutAll_25 d r_0 x_1 x_2 h =
    bR (hR h r_0 1) fun r1 =>
    ifp (inb x_2 (hN h r1) = true) (
    ifp ((hI h r1 (ix x_2)) = (10 : Int32))
      (L_M_cutAll_17 d r_0 x_1 (x_2 + (1 : Int32)) h)
      (ifp ((hI h r1 (ix x_2)) = (32 : Int32))
        (L_M_cutAll_17 d r_0 x_1 (x_2 + (1 : Int32)) h)
        (bR (hR h r_0 5) fun r2 =>
        ifp (inb x_1 (hN h r2) = true) (
        bI (evm d 142 [vI (hI h r1 (ix x_2))] (sI h r2 (ix x_1) x_2)) fun x4 h3 =>
        ifp (x4 = 0)
          (bI (evm d 143 [vI (hI h r1 (ix x_2))] h3) fun x6 h5 =>
          ifp (x6 = 0)
            (bR (hR h5 r_0 4) fun r7 =>
            bI (evm d 145 [vI (hI h r1 (ix x_2))] h5) fun x9 h8 =>
            ifp (x9 = 0)
              (L_M_cutAll_261 d r_0 x_1 x_2 ((hI h r1 (ix x_2)).toInt64) (4 : Int32) x_1 r7 h8)
              (L_M_cutAll_261 d r_0 x_1 x_2 ((hI h r1 (ix x_2)).toInt64) (3 : Int32) x_1 r7 h8))
            (L_M_cutAll_159 d r_0 x_1 x_2 x_2 (0 : Int64) h5))
          (L_M_cutAll_70 d r_0 x_1 x_2 x_2 (0 : Int64) h3)) none))) none := (evs_xpd _ tx_M_cutAll [17, 25, 70, 129, 148, 159, 218, 236, 261] 174 _).trans rfl
set_option maxRecDepth 100000 in
theorem e_M_cutAll_70 (d : Nat) (r_0 : Nat) (x_1 : Int32) (x_2 : Int32) (x_4 : Int32) (y_5 : Int64) (h : Hp) : L_M_cutAll_70 d r_0 x_1 x_2 x_4 y_5 h =
    ifp (x_2 < (hI h r_0 3))
      (bR (hR h r_0 1) fun r1 =>
      ifp (inb x_2 (hN h r1) = true) (
      bI (evm d 142 [vI (hI h r1 (ix x_2))] h) fun x3 h2 =>
      ifp (x3 = 0)
        (L_M_cutAll_129 d r_0 x_1 x_2 x_4 y_5 h2)
        (ifp ((x_2 - x_4) < (8 : Int32))
          (bR (hR h2 r_0 1) fun r4 =>
          ifp (inb x_2 (hN h2 r4) = true) (
          bI (evm d 144 [vI (hI h2 r4 (ix x_2))] h2) fun x6 h5 =>
          L_M_cutAll_70 d r_0 x_1 (x_2 + (1 : Int32)) x_4 (((37 : Int64) * y_5) + x6.toInt64) h5) none)
          (L_M_cutAll_70 d r_0 x_1 (x_2 + (1 : Int32)) x_4 y_5 h2))) none)
      (L_M_cutAll_129 d r_0 x_1 x_2 x_4 y_5 h) := (evs_xpd _ tx_M_cutAll [17, 25, 70, 129, 148, 159, 218, 236, 261] 174 _).trans rfl
set_option maxRecDepth 100000 in
theorem e_M_cutAll_129 (d : Nat) (r_0 : Nat) (x_1 : Int32) (x_2 : Int32) (x_4 : Int32) (y_5 : Int64) (h : Hp) : L_M_cutAll_129 d r_0 x_1 x_2 x_4 y_5 h =
    bR (hR h r_0 4) fun r1 =>
    ifp ((8 : Int32) < (x_2 - x_4))
      (L_M_cutAll_148 d r_0 x_1 x_2 y_5 (4 : Int32) x_1 r1 h)
      (L_M_cutAll_148 d r_0 x_1 x_2 y_5 (1 : Int32) x_1 r1 h) := (evs_xpd _ tx_M_cutAll [17, 25, 70, 129, 148, 159, 218, 236, 261] 174 _).trans rfl
set_option maxRecDepth 100000 in
theorem e_M_cutAll_148 (d : Nat) (r_0 : Nat) (x_1 : Int32) (x_2 : Int32) (y_5 : Int64) (xs0 : Int32) (xs1 : Int32) (rs2 : Nat) (h : Hp) : L_M_cutAll_148 d r_0 x_1 x_2 y_5 xs0 xs1 rs2 h =
    ifp (inb xs1 (hN h rs2) = true) (
    bR (hR (sI h rs2 (ix xs1) xs0) r_0 6) fun r1 =>
    ifp (inb x_1 (hN (sI h rs2 (ix xs1) xs0) r1) = true) (
    L_M_cutAll_17 d r_0 (x_1 + (1 : Int32)) x_2 (sL (sI h rs2 (ix xs1) xs0) r1 (ix x_1) y_5)) none) none := (evs_xpd _ tx_M_cutAll [17, 25, 70, 129, 148, 159, 218, 236, 261] 174 _).trans rfl
set_option maxRecDepth 100000 in
theorem e_M_cutAll_159 (d : Nat) (r_0 : Nat) (x_1 : Int32) (x_2 : Int32) (x_4 : Int32) (y_5 : Int64) (h : Hp) : L_M_cutAll_159 d r_0 x_1 x_2 x_4 y_5 h =
    ifp (x_2 < (hI h r_0 3))
      (bR (hR h r_0 1) fun r1 =>
      ifp (inb x_2 (hN h r1) = true) (
      bI (evm d 143 [vI (hI h r1 (ix x_2))] h) fun x3 h2 =>
      ifp (x3 = 0)
        (L_M_cutAll_218 d r_0 x_1 x_2 x_4 y_5 h2)
        (ifp ((x_2 - x_4) < (4 : Int32))
          (bR (hR h2 r_0 1) fun r4 =>
          ifp (inb x_2 (hN h2 r4) = true) (
          L_M_cutAll_159 d r_0 x_1 (x_2 + (1 : Int32)) x_4 ((((10 : Int64) * y_5) + (hI h2 r4 (ix x_2)).toInt64) - (48 : Int64)) h2) none)
          (L_M_cutAll_159 d r_0 x_1 (x_2 + (1 : Int32)) x_4 y_5 h2))) none)
      (L_M_cutAll_218 d r_0 x_1 x_2 x_4 y_5 h) := (evs_xpd _ tx_M_cutAll [17, 25, 70, 129, 148, 159, 218, 236, 261] 174 _).trans rfl
set_option maxRecDepth 100000 in
theorem e_M_cutAll_218 (d : Nat) (r_0 : Nat) (x_1 : Int32) (x_2 : Int32) (x_4 : Int32) (y_5 : Int64) (h : Hp) : L_M_cutAll_218 d r_0 x_1 x_2 x_4 y_5 h =
    bR (hR h r_0 4) fun r1 =>
    ifp ((4 : Int32) < (x_2 - x_4))
      (L_M_cutAll_236 d r_0 x_1 x_2 y_5 (4 : Int32) x_1 r1 h)
      (L_M_cutAll_236 d r_0 x_1 x_2 y_5 (2 : Int32) x_1 r1 h) := (evs_xpd _ tx_M_cutAll [17, 25, 70, 129, 148, 159, 218, 236, 261] 174 _).trans rfl
set_option maxRecDepth 100000 in
theorem e_M_cutAll_236 (d : Nat) (r_0 : Nat) (x_1 : Int32) (x_2 : Int32) (y_5 : Int64) (xs0 : Int32) (xs1 : Int32) (rs2 : Nat) (h : Hp) : L_M_cutAll_236 d r_0 x_1 x_2 y_5 xs0 xs1 rs2 h =
    ifp (inb xs1 (hN h rs2) = true) (
    bR (hR (sI h rs2 (ix xs1) xs0) r_0 6) fun r1 =>
    ifp (inb x_1 (hN (sI h rs2 (ix xs1) xs0) r1) = true) (
    L_M_cutAll_17 d r_0 (x_1 + (1 : Int32)) x_2 (sL (sI h rs2 (ix xs1) xs0) r1 (ix x_1) y_5)) none) none := (evs_xpd _ tx_M_cutAll [17, 25, 70, 129, 148, 159, 218, 236, 261] 174 _).trans rfl
set_option maxRecDepth 100000 in
theorem e_M_cutAll_261 (d : Nat) (r_0 : Nat) (x_1 : Int32) (x_2 : Int32) (y_5 : Int64) (xs0 : Int32) (xs1 : Int32) (rs2 : Nat) (h : Hp) : L_M_cutAll_261 d r_0 x_1 x_2 y_5 xs0 xs1 rs2 h =
    ifp (inb xs1 (hN h rs2) = true) (
    bR (hR (sI h rs2 (ix xs1) xs0) r_0 6) fun r1 =>
    ifp (inb x_1 (hN (sI h rs2 (ix xs1) xs0) r1) = true) (
    L_M_cutAll_17 d r_0 (x_1 + (1 : Int32)) (x_2 + (1 : Int32)) (sL (sI h rs2 (ix xs1) xs0) r1 (ix x_1) y_5)) none) none := (evs_xpd _ tx_M_cutAll [17, 25, 70, 129, 148, 159, 218, 236, 261] 174 _).trans rfl
set_option maxRecDepth 100000 in
theorem e_M_cutAll (d : Nat) (r_0 : Nat) (h : Hp) : evm (d + 1) 146 [vR 12 r_0] h =
    L_M_cutAll_17 d r_0 (0 : Int32) (0 : Int32) (sI (sI h r_0 3 (hI h r_0 2)) r_0 2 (0 : Int32)) := (evs_xpd _ tx_M_cutAll [17, 25, 70, 129, 148, 159, 218, 236, 261] 174 _).trans rfl
set_option maxRecDepth 100000 in
theorem e_M_wrong (d : Nat) (r_0 : Nat) (x_1 : Int32) (h : Hp) : evm (d + 1) 147 [vR 12 r_0, vI x_1] h =
    ifp ((hI h r_0 8) = 0)
      (bR (hR h r_0 5) fun r1 =>
      ifp (inb (hI h r_0 7) (hN h r1) = true) (
      some (none, sI h r_0 8 (x_1 + ((16 : Int32) * (hI h r1 (ix (hI h r_0 7))))))) none)
      (some (none, h)) := (evs_xpd _ tx_M_wrong [] 20 _).trans rfl
set_option maxRecDepth 100000 in
theorem e_M_isSign (d : Nat) (r_0 : Nat) (x_1 : Int32) (h : Hp) : evm (d + 1) 148 [vR 12 r_0, vI x_1] h =
    ifp ((hI h r_0 8) = 0)
      (bR (hR h r_0 4) fun r1 =>
      ifp (inb (hI h r_0 7) (hN h r1) = true) (
      ifp ((hI h r1 (ix (hI h r_0 7))) = (3 : Int32))
        (bR (hR h r_0 6) fun r2 =>
        ifp (inb (hI h r_0 7) (hN h r2) = true) (
        ifp ((lg_cmp (hL h r2 (ix (hI h r_0 7))) x_1.toInt64) = 0)
          (some (some (vI (1 : Int32)), h))
          (some (some (vI (0 : Int32)), h))) none)
        (some (some (vI (0 : Int32)), h))) none)
      (some (some (vI (0 : Int32)), h)) := (evs_xpd _ tx_M_isSign [] 28 _).trans rfl
set_option maxRecDepth 100000 in
theorem e_M_isWord (d : Nat) (r_0 : Nat) (x_1 : Int32) (h : Hp) : evm (d + 1) 149 [vR 12 r_0, vI x_1] h =
    ifp ((hI h r_0 8) = 0)
      (bR (hR h r_0 4) fun r1 =>
      ifp (inb (hI h r_0 7) (hN h r1) = true) (
      ifp ((hI h r1 (ix (hI h r_0 7))) = (1 : Int32))
        (bR (hR h r_0 6) fun r2 =>
        ifp (inb (hI h r_0 7) (hN h r2) = true) (
        bR (hR h r_0 9) fun r3 =>
        ifp (inb x_1 (hN h r3) = true) (
        ifp ((lg_cmp (hL h r2 (ix (hI h r_0 7))) (hL h r3 (ix x_1))) = 0)
          (some (some (vI (1 : Int32)), h))
          (some (some (vI (0 : Int32)), h))) none) none)
        (some (some (vI (0 : Int32)), h))) none)
      (some (some (vI (0 : Int32)), h)) := (evs_xpd _ tx_M_isWord [] 30 _).trans rfl
set_option maxRecDepth 100000 in
theorem e_M_takeSign (d : Nat) (r_0 : Nat) (x_1 : Int32) (h : Hp) : evm (d + 1) 150 [vR 12 r_0, vI x_1] h =
    bI (evm d 148 [vR 12 r_0, vI x_1] h) fun x2 h1 =>
    ifp (x2 = 0)
      (bV (evm d 147 [vR 12 r_0, vI (1 : Int32)] h1) fun h3 =>
      some (none, h3))
      (some (none, sI h1 r_0 7 ((hI h1 r_0 7) + (1 : Int32)))) := (evs_xpd _ tx_M_takeSign [] 20 _).trans rfl
set_option maxRecDepth 100000 in
theorem e_M_hasSign (d : Nat) (r_0 : Nat) (x_1 : Int32) (h : Hp) : evm (d + 1) 151 [vR 12 r_0, vI x_1] h =
    bI (evm d 148 [vR 12 r_0, vI x_1] h) fun x2 h1 =>
    ifp (x2 = 0)
      (bif isB x2 then some (some (vI x2), sI h1 r_0 7 ((hI h1 r_0 7) + (0 : Int32))) else none)
      (bif isB x2 then some (some (vI x2), sI h1 r_0 7 ((hI h1 r_0 7) + (1 : Int32))) else none) := (evs_xpd _ tx_M_hasSign [] 21 _).trans rfl
set_option maxRecDepth 100000 in
theorem e_M_hasWord (d : Nat) (r_0 : Nat) (x_1 : Int32) (h : Hp) : evm (d + 1) 152 [vR 12 r_0, vI x_1] h =
    bI (evm d 149 [vR 12 r_0, vI x_1] h) fun x2 h1 =>
    ifp (x2 = 0)
      (bif isB x2 then some (some (vI x2), sI h1 r_0 7 ((hI h1 r_0 7) + (0 : Int32))) else none)
      (bif isB x2 then some (some (vI x2), sI h1 r_0 7 ((hI h1 r_0 7) + (1 : Int32))) else none) := (evs_xpd _ tx_M_hasWord [] 21 _).trans rfl
set_option maxRecDepth 100000 in
theorem e_M_takeWord (d : Nat) (r_0 : Nat) (x_1 : Int32) (h : Hp) : evm (d + 1) 153 [vR 12 r_0, vI x_1] h =
    bI (evm d 152 [vR 12 r_0, vI x_1] h) fun x2 h1 =>
    ifp (x2 = 0)
      (bV (evm d 147 [vR 12 r_0, vI (1 : Int32)] h1) fun h3 =>
      some (none, h3))
      (some (none, h1)) := (evs_xpd _ tx_M_takeWord [] 13 _).trans rfl
set_option maxRecDepth 100000 in
theorem e_M_within (d : Nat) (x_0 : Int32) (x_1 : Int32) (x_2 : Int32) (h : Hp) : evm (d + 1) 154 [vI x_0, vI x_1, vI x_2] h =
    ifp (x_0 < x_1)
      (some (some (vI (0 : Int32)), h))
      (ifp (x_2 < x_0)
        (some (some (vI (0 : Int32)), h))
        (some (some (vI (1 : Int32)), h))) := (evs_xpd _ tx_M_within [] 15 _).trans rfl
noncomputable def L_M_standsAsAlways_2 (d : Nat) (r_0 : Nat) (x_1 : Int32) (x_2 : Int32) (h : Hp) : Option Rs := evs (evm d) tx_M_standsAsAlways (2, [some (vR 12 r_0), some (vI x_1), some (vI x_2)], [], h)
noncomputable def L_M_standsAsAlways_23 (d : Nat) (r_0 : Nat) (x_1 : Int32) (h : Hp) : Option Rs := evs (evm d) tx_M_standsAsAlways (23, [some (vR 12 r_0), some (vI x_1), none], [], h)
set_option maxRecDepth 100000 in
theorem e_M_standsAsAlways_2 (d : Nat) (r_0 : Nat) (x_1 : Int32) (x_2 : Int32) (h : Hp) : L_M_standsAsAlways_2 d r_0 x_1 x_2 h =
    ifp (x_2 < (70 : Int32))
      (bR (hR h r_0 10) fun r1 =>
      ifp (inb (x_1 + x_2) (hN h r1) = true) (
      L_M_standsAsAlways_2 d r_0 x_1 (x_2 + (1 : Int32)) (sI h r1 (ix (x_1 + x_2)) (0 : Int32))) none)
      (L_M_standsAsAlways_23 d r_0 x_1 h) := (evs_xpd _ tx_M_standsAsAlways [2, 23] 55 _).trans rfl
set_option maxRecDepth 100000 in
theorem e_M_standsAsAlways_23 (d : Nat) (r_0 : Nat) (x_1 : Int32) (h : Hp) : L_M_standsAsAlways_23 d r_0 x_1 h =
    bR (hR h r_0 10) fun r1 =>
    ifp (inb (x_1 + (1 : Int32)) (hN h r1) = true) (
    bR (hR (sI h r1 (ix (x_1 + (1 : Int32))) (-1 : Int32)) r_0 10) fun r2 =>
    ifp (inb (x_1 + (2 : Int32)) (hN (sI h r1 (ix (x_1 + (1 : Int32))) (-1 : Int32)) r2) = true) (
    bR (hR (sI (sI h r1 (ix (x_1 + (1 : Int32))) (-1 : Int32)) r2 (ix (x_1 + (2 : Int32))) (-1 : Int32)) r_0 10) fun r3 =>
    ifp (inb (x_1 + (4 : Int32)) (hN (sI (sI h r1 (ix (x_1 + (1 : Int32))) (-1 : Int32)) r2 (ix (x_1 + (2 : Int32))) (-1 : Int32)) r3) = true) (
    bR (hR (sI (sI (sI h r1 (ix (x_1 + (1 : Int32))) (-1 : Int32)) r2 (ix (x_1 + (2 : Int32))) (-1 : Int32)) r3 (ix (x_1 + (4 : Int32))) (40 : Int32)) r_0 10) fun r4 =>
    ifp (inb (x_1 + (5 : Int32)) (hN (sI (sI (sI h r1 (ix (x_1 + (1 : Int32))) (-1 : Int32)) r2 (ix (x_1 + (2 : Int32))) (-1 : Int32)) r3 (ix (x_1 + (4 : Int32))) (40 : Int32)) r4) = true) (
    bR (hR (sI (sI (sI (sI h r1 (ix (x_1 + (1 : Int32))) (-1 : Int32)) r2 (ix (x_1 + (2 : Int32))) (-1 : Int32)) r3 (ix (x_1 + (4 : Int32))) (40 : Int32)) r4 (ix (x_1 + (5 : Int32))) (-1 : Int32)) r_0 10) fun r5 =>
    ifp (inb (x_1 + (7 : Int32)) (hN (sI (sI (sI (sI h r1 (ix (x_1 + (1 : Int32))) (-1 : Int32)) r2 (ix (x_1 + (2 : Int32))) (-1 : Int32)) r3 (ix (x_1 + (4 : Int32))) (40 : Int32)) r4 (ix (x_1 + (5 : Int32))) (-1 : Int32)) r5) = true) (
    some (none, sI (sI (sI (sI (sI h r1 (ix (x_1 + (1 : Int32))) (-1 : Int32)) r2 (ix (x_1 + (2 : Int32))) (-1 : Int32)) r3 (ix (x_1 + (4 : Int32))) (40 : Int32)) r4 (ix (x_1 + (5 : Int32))) (-1 : Int32)) r5 (ix (x_1 + (7 : Int32))) (-1 : Int32))) none) none) none) none) none := (evs_xpd _ tx_M_standsAsAlways [2, 23] 55 _).trans rfl
set_option maxRecDepth 100000 in
theorem e_M_standsAsAlways (d : Nat) (r_0 : Nat) (x_1 : Int32) (h : Hp) : evm (d + 1) 155 [vR 12 r_0, vI x_1] h =
    L_M_standsAsAlways_2 d r_0 x_1 (0 : Int32) h := (evs_xpd _ tx_M_standsAsAlways [2, 23] 55 _).trans rfl
noncomputable def L_M_takeNumber_28 (d : Nat) (r_0 : Nat) (x_1 : Int32) (x_2 : Int32) (h : Hp) : Option Rs := evs (evm d) tx_M_takeNumber (28, [some (vR 12 r_0), some (vI x_1), some (vI x_2)], [], h)
noncomputable def L_M_takeNumber_70 (d : Nat) (r_0 : Nat) (h : Hp) : Option Rs := evs (evm d) tx_M_takeNumber (70, [some (vR 12 r_0), none, none], [], h)
set_option maxRecDepth 100000 in
theorem e_M_takeNumber_28 (d : Nat) (r_0 : Nat) (x_1 : Int32) (x_2 : Int32) (h : Hp) : L_M_takeNumber_28 d r_0 x_1 x_2 h =
    ifp ((hI h r_0 8) = 0)
      (bR (hR h r_0 6) fun r1 =>
      ifp (inb (hI h r_0 7) (hN h r1) = true) (
      ifp ((lg_cmp (hL h r1 (ix (hI h r_0 7))) x_1.toInt64) < 0)
        (bV (evm d 147 [vR 12 r_0, vI (4 : Int32)] h) fun h2 =>
        L_M_takeNumber_70 d r_0 h2)
        (bR (hR h r_0 6) fun r3 =>
        ifp (inb (hI h r_0 7) (hN h r3) = true) (
        ifp (0 < (lg_cmp (hL h r3 (ix (hI h r_0 7))) x_2.toInt64))
          (bV (evm d 147 [vR 12 r_0, vI (4 : Int32)] h) fun h4 =>
          L_M_takeNumber_70 d r_0 h4)
          (L_M_takeNumber_70 d r_0 h)) none)) none)
      (L_M_takeNumber_70 d r_0 h) := (evs_xpd _ tx_M_takeNumber [28, 70] 63 _).trans rfl
set_option maxRecDepth 100000 in
theorem e_M_takeNumber_70 (d : Nat) (r_0 : Nat) (h : Hp) : L_M_takeNumber_70 d r_0 h =
    ifp (0 < (hI h r_0 8))
      (some (some (vI (0 : Int32)), h))
      (bR (hR (sI h r_0 7 ((hI h r_0 7) + (1 : Int32))) r_0 6) fun r1 =>
      ifp (inb ((hI (sI h r_0 7 ((hI h r_0 7) + (1 : Int32))) r_0 7) - (1 : Int32)) (hN (sI h r_0 7 ((hI h r_0 7) + (1 : Int32))) r1) = true) (
      some (some (vI ((hL (sI h r_0 7 ((hI h r_0 7) + (1 : Int32))) r1 (ix ((hI (sI h r_0 7 ((hI h r_0 7) + (1 : Int32))) r_0 7) - (1 : Int32)))).toInt32)), sI h r_0 7 ((hI h r_0 7) + (1 : Int32)))) none) := (evs_xpd _ tx_M_takeNumber [28, 70] 63 _).trans rfl
set_option maxRecDepth 100000 in
theorem e_M_takeNumber (d : Nat) (r_0 : Nat) (x_1 : Int32) (x_2 : Int32) (h : Hp) : evm (d + 1) 156 [vR 12 r_0, vI x_1, vI x_2] h =
    ifp ((hI h r_0 8) = 0)
      (bR (hR h r_0 4) fun r1 =>
      ifp (inb (hI h r_0 7) (hN h r1) = true) (
      ifp ((hI h r1 (ix (hI h r_0 7))) = (2 : Int32))
        (L_M_takeNumber_28 d r_0 x_1 x_2 h)
        (bV (evm d 147 [vR 12 r_0, vI (1 : Int32)] h) fun h2 =>
        L_M_takeNumber_70 d r_0 h2)) none)
      (L_M_takeNumber_28 d r_0 x_1 x_2 h) := (evs_xpd _ tx_M_takeNumber [28, 70] 63 _).trans rfl
set_option maxRecDepth 100000 in
theorem e_M_takeAfter (d : Nat) (r_0 : Nat) (x_1 : Int32) (x_2 : Int32) (x_3 : Int32) (h : Hp) : evm (d + 1) 157 [vR 12 r_0, vI x_1, vI x_2, vI x_3] h =
    bV (evm d 153 [vR 12 r_0, vI x_1] h) fun h1 =>
    bI (evm d 156 [vR 12 r_0, vI x_2, vI x_3] h1) fun x3 h2 =>
    some (some (vI x3), h2) := (evs_xpd _ tx_M_takeAfter [] 13 _).trans rfl
noncomputable def L_M_stair_50 (d : Nat) (r_0 : Nat) (h : Hp) : Option Rs := evs (evm d) tx_M_stair (50, [some (vR 12 r_0), none], [], h)
noncomputable def L_M_stair_82 (d : Nat) (r_0 : Nat) (h : Hp) : Option Rs := evs (evm d) tx_M_stair (82, [some (vR 12 r_0), none], [], h)
noncomputable def L_M_stair_130 (d : Nat) (r_0 : Nat) (x_1 : Int32) (h : Hp) : Option Rs := evs (evm d) tx_M_stair (130, [some (vR 12 r_0), some (vI x_1)], [], h)
noncomputable def L_M_stair_163 (d : Nat) (r_0 : Nat) (x_1 : Int32) (h : Hp) : Option Rs := evs (evm d) tx_M_stair (163, [some (vR 12 r_0), some (vI x_1)], [], h)
noncomputable def L_M_stair_211 (d : Nat) (r_0 : Nat) (x_1 : Int32) (h : Hp) : Option Rs := evs (evm d) tx_M_stair (211, [some (vR 12 r_0), some (vI x_1)], [], h)
noncomputable def L_M_stair_232 (d : Nat) (r_0 : Nat) (x_1 : Int32) (h : Hp) : Option Rs := evs (evm d) tx_M_stair (232, [some (vR 12 r_0), some (vI x_1)], [], h)
set_option maxRecDepth 100000 in
theorem e_M_stair_50 (d : Nat) (r_0 : Nat) (h : Hp) : L_M_stair_50 d r_0 h =
    ifp ((hI h r_0 8) = 0)
      (bR (hR h r_0 4) fun r1 =>
      ifp (inb (hI h r_0 7) (hN h r1) = true) (
      ifp ((hI h r1 (ix (hI h r_0 7))) = 0)
        (L_M_stair_82 d r_0 h)
        (bV (evm d 161 [vR 12 r_0] h) fun h2 =>
        bV (evm d 150 [vR 12 r_0, vI (59 : Int32)] h2) fun h3 =>
        L_M_stair_50 d r_0 h3)) none)
      (L_M_stair_82 d r_0 h) := (evs_xpd _ tx_M_stair [50, 82, 130, 163, 211, 232] 147 _).trans rfl
set_option maxRecDepth 100000 in
theorem e_M_stair_82 (d : Nat) (r_0 : Nat) (h : Hp) : L_M_stair_82 d r_0 h =
    ifp (0 < (hI h r_0 8))
      (some (some (vI (hI h r_0 8)), h))
      (bR (hR h r_0 10) fun r1 =>
      ifp (inb (78 : Int32) (hN h r1) = true) (
      ifp ((hI h r1 (ix (78 : Int32))) = 0)
        (bR (hR h r_0 10) fun r2 =>
        ifp (inb (78 : Int32) (hN h r2) = true) (
        bR (hR (sI h r2 (ix (78 : Int32)) (2 : Int32)) r_0 10) fun r3 =>
        ifp (inb (79 : Int32) (hN (sI h r2 (ix (78 : Int32)) (2 : Int32)) r3) = true) (
        bR (hR (sI (sI h r2 (ix (78 : Int32)) (2 : Int32)) r3 (ix (79 : Int32)) (1 : Int32)) r_0 10) fun r4 =>
        ifp (inb (80 : Int32) (hN (sI (sI h r2 (ix (78 : Int32)) (2 : Int32)) r3 (ix (79 : Int32)) (1 : Int32)) r4) = true) (
        L_M_stair_130 d r_0 (0 : Int32) (sI (sI (sI h r2 (ix (78 : Int32)) (2 : Int32)) r3 (ix (79 : Int32)) (1 : Int32)) r4 (ix (80 : Int32)) (2 : Int32))) none) none) none)
        (L_M_stair_130 d r_0 (0 : Int32) h)) none) := (evs_xpd _ tx_M_stair [50, 82, 130, 163, 211, 232] 147 _).trans rfl
set_option maxRecDepth 100000 in
theorem e_M_stair_130 (d : Nat) (r_0 : Nat) (x_1 : Int32) (h : Hp) : L_M_stair_130 d r_0 x_1 h =
    ifp (x_1 < (70 : Int32))
      (bR (hR h r_0 10) fun r2 =>
      bR (hR h r_0 10) fun r3 =>
      ifp (inb ((70 : Int32) + x_1) (hN h r3) = true) (
      ifp (inb x_1 (hN h r2) = true) (
      L_M_stair_130 d r_0 (x_1 + (1 : Int32)) (sI h r2 (ix x_1) (hI h r3 (ix ((70 : Int32) + x_1))))) none) none)
      (bV (evm d 159 [vR 12 r_0] h) fun h1 =>
      L_M_stair_163 d r_0 (0 : Int32) h1) := (evs_xpd _ tx_M_stair [50, 82, 130, 163, 211, 232] 147 _).trans rfl
set_option maxRecDepth 100000 in
theorem e_M_stair_163 (d : Nat) (r_0 : Nat) (x_1 : Int32) (h : Hp) : L_M_stair_163 d r_0 x_1 h =
    ifp (x_1 < (hI h r_0 13))
      (bR (hR h r_0 11) fun r1 =>
      bR (hR h r_0 11) fun r2 =>
      ifp (inb ((1100 : Int32) + x_1) (hN h r2) = true) (
      ifp (inb x_1 (hN h r1) = true) (
      bR (hR (sI h r1 (ix x_1) (hI h r2 (ix ((1100 : Int32) + x_1)))) r_0 12) fun r3 =>
      bR (hR (sI h r1 (ix x_1) (hI h r2 (ix ((1100 : Int32) + x_1)))) r_0 12) fun r4 =>
      ifp (inb ((1100 : Int32) + x_1) (hN (sI h r1 (ix x_1) (hI h r2 (ix ((1100 : Int32) + x_1)))) r4) = true) (
      ifp (inb x_1 (hN (sI h r1 (ix x_1) (hI h r2 (ix ((1100 : Int32) + x_1)))) r3) = true) (
      L_M_stair_163 d r_0 (x_1 + (1 : Int32)) (sI (sI h r1 (ix x_1) (hI h r2 (ix ((1100 : Int32) + x_1)))) r3 (ix x_1) (hI (sI h r1 (ix x_1) (hI h r2 (ix ((1100 : Int32) + x_1)))) r4 (ix ((1100 : Int32) + x_1))))) none) none) none) none)
      (L_M_stair_211 d r_0 (0 : Int32) h) := (evs_xpd _ tx_M_stair [50, 82, 130, 163, 211, 232] 147 _).trans rfl
set_option maxRecDepth 100000 in
theorem e_M_stair_211 (d : Nat) (r_0 : Nat) (x_1 : Int32) (h : Hp) : L_M_stair_211 d r_0 x_1 h =
    ifp (x_1 < (84 : Int32))
      (bR (hR h r_0 17) fun r1 =>
      ifp (inb x_1 (hN h r1) = true) (
      L_M_stair_211 d r_0 (x_1 + (1 : Int32)) (sI h r1 (ix x_1) (0 : Int32))) none)
      (L_M_stair_232 d r_0 (0 : Int32) h) := (evs_xpd _ tx_M_stair [50, 82, 130, 163, 211, 232] 147 _).trans rfl
set_option maxRecDepth 100000 in
theorem e_M_stair_232 (d : Nat) (r_0 : Nat) (x_1 : Int32) (h : Hp) : L_M_stair_232 d r_0 x_1 h =
    ifp (x_1 < (4 : Int32))
      (bR (hR h r_0 18) fun r1 =>
      ifp (inb x_1 (hN h r1) = true) (
      L_M_stair_232 d r_0 (x_1 + (1 : Int32)) (sI h r1 (ix x_1) (0 : Int32))) none)
      (some (some (vI (0 : Int32)), h)) := (evs_xpd _ tx_M_stair [50, 82, 130, 163, 211, 232] 147 _).trans rfl
set_option maxRecDepth 100000 in
theorem e_M_stair (d : Nat) (r_0 : Nat) (h : Hp) : evm (d + 1) 158 [vR 12 r_0] h =
    bV (evm d 146 [vR 12 r_0] (sI h r_0 0 (0 : Int32))) fun h1 =>
    bV (evm d 155 [vR 12 r_0, vI (70 : Int32)] (sI (sI h1 r_0 13 (0 : Int32)) r_0 14 (0 : Int32))) fun h2 =>
    bV (evm d 153 [vR 12 r_0, vI (0 : Int32)] h2) fun h3 =>
    bR (hR h3 r_0 10) fun r4 =>
    bI (evm d 156 [vR 12 r_0, vI (1 : Int32), vI (40 : Int32)] h3) fun x6 h5 =>
    ifp (inb (70 : Int32) (hN h5 r4) = true) (
    bV (evm d 150 [vR 12 r_0, vI (59 : Int32)] (sI h5 r4 (ix (70 : Int32)) x6)) fun h7 =>
    L_M_stair_50 d r_0 h7) none := (evs_xpd _ tx_M_stair [50, 82, 130, 163, 211, 232] 147 _).trans rfl
noncomputable def L_M_sorts_2 (d : Nat) (r_0 : Nat) (x_1 : Int32) (h : Hp) : Option Rs := evs (evm d) tx_M_sorts (2, [some (vR 12 r_0), some (vI x_1), none, none, none], [], h)
noncomputable def L_M_sorts_12 (d : Nat) (r_0 : Nat) (x_1 : Int32) (x_2 : Int32) (h : Hp) : Option Rs := evs (evm d) tx_M_sorts (12, [some (vR 12 r_0), some (vI x_1), some (vI x_2), none, none], [], h)
noncomputable def L_M_sorts_58 (d : Nat) (r_0 : Nat) (x_1 : Int32) (x_2 : Int32) (x_3 : Int32) (x_4 : Int32) (xs0 : Int32) (xs1 : Int32) (rs2 : Nat) (h : Hp) : Option Rs := evs (evm d) tx_M_sorts (58, [some (vR 12 r_0), some (vI x_1), some (vI x_2), some (vI x_3), some (vI x_4)], [vI xs0, vI xs1, vR 20 rs2], h)
set_option maxRecDepth 100000 in
theorem e_M_sorts_2 (d : Nat) (r_0 : Nat) (x_1 : Int32) (h : Hp) : L_M_sorts_2 d r_0 x_1 h =
    bI (evm d 177 [vR 12 r_0] h) fun x2 h1 =>
    ifp (x_1 < x2)
      (L_M_sorts_12 d r_0 x_1 (0 : Int32) h1)
      (some (none, h1)) := (evs_xpd _ tx_M_sorts [2, 12, 58] 59 _).trans rfl
set_option maxRecDepth 100000 in
theorem e_M_sorts_12 (d : Nat) (r_0 : Nat) (x_1 : Int32) (x_2 : Int32) (h : Hp) : L_M_sorts_12 d r_0 x_1 x_2 h =
    ifp (x_2 < x_1)
      (bR (hR h r_0 10) fun r1 =>
      ifp (inb ((9 : Int32) + x_2) (hN h r1) = true) (
      bR (hR h r_0 10) fun r2 =>
      ifp (inb ((9 : Int32) + x_1) (hN h r2) = true) (
      bR (hR h r_0 10) fun r3 =>
      ifp ((hI h r1 (ix ((9 : Int32) + x_2))) < (hI h r2 (ix ((9 : Int32) + x_1))))
        (L_M_sorts_58 d r_0 x_1 x_2 (hI h r1 (ix ((9 : Int32) + x_2))) (hI h r2 (ix ((9 : Int32) + x_1))) (hI h r1 (ix ((9 : Int32) + x_2))) ((9 : Int32) + x_2) r3 h)
        (L_M_sorts_58 d r_0 x_1 x_2 (hI h r1 (ix ((9 : Int32) + x_2))) (hI h r2 (ix ((9 : Int32) + x_1))) (hI h r2 (ix ((9 : Int32) + x_1))) ((9 : Int32) + x_2) r3 h)) none) none)
      (L_M_sorts_2 d r_0 (x_1 + (1 : Int32)) h) := (evs_xpd _ tx_M_sorts [2, 12, 58] 59 _).trans rfl
set_option maxRecDepth 100000 in
theorem e_M_sorts_58 (d : Nat) (r_0 : Nat) (x_1 : Int32) (x_2 : Int32) (x_3 : Int32) (x_4 : Int32) (xs0 : Int32) (xs1 : Int32) (rs2 : Nat) (h : Hp) : L_M_sorts_58 d r_0 x_1 x_2 x_3 x_4 xs0 xs1 rs2 h =
    ifp (inb xs1 (hN h rs2) = true) (
    bR (hR (sI h rs2 (ix xs1) xs0) r_0 10) fun r1 =>
    ifp (x_3 < x_4)
      (ifp (inb ((9 : Int32) + x_1) (hN (sI h rs2 (ix xs1) xs0) r1) = true) (
      L_M_sorts_12 d r_0 x_1 (x_2 + (1 : Int32)) (sI (sI h rs2 (ix xs1) xs0) r1 (ix ((9 : Int32) + x_1)) x_4)) none)
      (ifp (inb ((9 : Int32) + x_1) (hN (sI h rs2 (ix xs1) xs0) r1) = true) (
      L_M_sorts_12 d r_0 x_1 (x_2 + (1 : Int32)) (sI (sI h rs2 (ix xs1) xs0) r1 (ix ((9 : Int32) + x_1)) x_3)) none)) none := (evs_xpd _ tx_M_sorts [2, 12, 58] 59 _).trans rfl
set_option maxRecDepth 100000 in
theorem e_M_sorts (d : Nat) (r_0 : Nat) (h : Hp) : evm (d + 1) 159 [vR 12 r_0] h =
    L_M_sorts_2 d r_0 (0 : Int32) h := (evs_xpd _ tx_M_sorts [2, 12, 58] 59 _).trans rfl
noncomputable def L_M_isOnce_17 (d : Nat) (r_0 : Nat) (x_1 : Int32) (h : Hp) : Option Rs := evs (evm d) tx_M_isOnce (17, [some (vR 12 r_0), some (vI x_1)], [], h)
noncomputable def L_M_isOnce_46 (d : Nat) (r_0 : Nat) (xs0 : Int32) (xs1 : Int32) (rs2 : Nat) (h : Hp) : Option Rs := evs (evm d) tx_M_isOnce (46, [some (vR 12 r_0), none], [vI xs0, vI xs1, vR 12 rs2], h)
set_option maxRecDepth 100000 in
theorem e_M_isOnce_17 (d : Nat) (r_0 : Nat) (x_1 : Int32) (h : Hp) : L_M_isOnce_17 d r_0 x_1 h =
    ifp (0 < (hI (sI h r_0 14 ((hI h r_0 14) ||| ((1 : Int32) <<< (x_1 &&& 31)))) r_0 8))
      (L_M_isOnce_46 d r_0 (0 : Int32) (hI (sI h r_0 14 ((hI h r_0 14) ||| ((1 : Int32) <<< (x_1 &&& 31)))) r_0 7) r_0 (sI h r_0 14 ((hI h r_0 14) ||| ((1 : Int32) <<< (x_1 &&& 31)))))
      (L_M_isOnce_46 d r_0 (1 : Int32) (hI (sI h r_0 14 ((hI h r_0 14) ||| ((1 : Int32) <<< (x_1 &&& 31)))) r_0 7) r_0 (sI h r_0 14 ((hI h r_0 14) ||| ((1 : Int32) <<< (x_1 &&& 31))))) := (evs_xpd _ tx_M_isOnce [17, 46] 42 _).trans rfl
set_option maxRecDepth 100000 in
theorem e_M_isOnce_46 (d : Nat) (r_0 : Nat) (xs0 : Int32) (xs1 : Int32) (rs2 : Nat) (h : Hp) : L_M_isOnce_46 d r_0 xs0 xs1 rs2 h =
    ifp ((hI (sI h rs2 7 (xs1 + xs0)) r_0 8) = 0)
      (some (some (vI (1 : Int32)), sI h rs2 7 (xs1 + xs0)))
      (some (some (vI (0 : Int32)), sI h rs2 7 (xs1 + xs0))) := (evs_xpd _ tx_M_isOnce [17, 46] 42 _).trans rfl
set_option maxRecDepth 100000 in
theorem e_M_isOnce (d : Nat) (r_0 : Nat) (x_1 : Int32) (h : Hp) : evm (d + 1) 160 [vR 12 r_0, vI x_1] h =
    ifp ((((hI h r_0 14) >>> (x_1 &&& 31)) &&& (1 : Int32)) = (1 : Int32))
      (bV (evm d 147 [vR 12 r_0, vI (3 : Int32)] h) fun h1 =>
      L_M_isOnce_17 d r_0 x_1 h1)
      (L_M_isOnce_17 d r_0 x_1 h) := (evs_xpd _ tx_M_isOnce [17, 46] 42 _).trans rfl
noncomputable def L_M_readLine_16 (d : Nat) (r_0 : Nat) (h : Hp) : Option Rs := evs (evm d) tx_M_readLine (16, [some (vR 12 r_0)], [], h)
noncomputable def L_M_readLine_94 (d : Nat) (r_0 : Nat) (h : Hp) : Option Rs := evs (evm d) tx_M_readLine (94, [some (vR 12 r_0)], [], h)
noncomputable def L_M_readLine_166 (d : Nat) (r_0 : Nat) (h : Hp) : Option Rs := evs (evm d) tx_M_readLine (166, [some (vR 12 r_0)], [], h)
noncomputable def L_M_readLine_215 (d : Nat) (r_0 : Nat) (h : Hp) : Option Rs := evs (evm d) tx_M_readLine (215, [some (vR 12 r_0)], [], h)
set_option maxRecDepth 100000 in
theorem e_M_readLine_16 (d : Nat) (r_0 : Nat) (h : Hp) : L_M_readLine_16 d r_0 h =
    bI (evm d 149 [vR 12 r_0, vI (5 : Int32)] h) fun x2 h1 =>
    ifp (x2 = 0)
      (bI (evm d 149 [vR 12 r_0, vI (6 : Int32)] h1) fun x4 h3 =>
      ifp (x4 = 0)
        (bI (evm d 149 [vR 12 r_0, vI (1 : Int32)] h3) fun x6 h5 =>
        ifp (x6 = 0)
          (bI (evm d 149 [vR 12 r_0, vI (4 : Int32)] h5) fun x8 h7 =>
          ifp (x8 = 0)
            (L_M_readLine_94 d r_0 h7)
            (bI (evm d 160 [vR 12 r_0, vI (1 : Int32)] h7) fun x10 h9 =>
            ifp (x10 = 0)
              (some (none, h9))
              (bR (hR h9 r_0 10) fun r11 =>
              bI (evm d 156 [vR 12 r_0, vI (0 : Int32), vI (4 : Int32)] h9) fun x13 h12 =>
              ifp (inb (71 : Int32) (hN h12 r11) = true) (
              some (none, sI h12 r11 (ix (71 : Int32)) x13)) none)))
          (bV (evm d 165 [vR 12 r_0] h5) fun h14 =>
          some (none, h14)))
        (bV (evm d 163 [vR 12 r_0] h3) fun h15 =>
        some (none, h15)))
      (bV (evm d 162 [vR 12 r_0] h1) fun h16 =>
      some (none, h16)) := (evs_xpd _ tx_M_readLine [16, 94, 166, 215] 139 _).trans rfl
set_option maxRecDepth 100000 in
theorem e_M_readLine_94 (d : Nat) (r_0 : Nat) (h : Hp) : L_M_readLine_94 d r_0 h =
    bI (evm d 149 [vR 12 r_0, vI (7 : Int32)] h) fun x2 h1 =>
    ifp (x2 = 0)
      (bI (evm d 149 [vR 12 r_0, vI (10 : Int32)] h1) fun x4 h3 =>
      ifp (x4 = 0)
        (L_M_readLine_166 d r_0 h3)
        (bI (evm d 160 [vR 12 r_0, vI (3 : Int32)] h3) fun x6 h5 =>
        ifp (x6 = 0)
          (some (none, h5))
          (bR (hR h5 r_0 10) fun r7 =>
          bI (evm d 156 [vR 12 r_0, vI (0 : Int32), vI (40 : Int32)] h5) fun x9 h8 =>
          ifp (inb (73 : Int32) (hN h8 r7) = true) (
          bR (hR (sI h8 r7 (ix (73 : Int32)) x9) r_0 10) fun r10 =>
          bR (hR (sI h8 r7 (ix (73 : Int32)) x9) r_0 10) fun r11 =>
          ifp (inb (73 : Int32) (hN (sI h8 r7 (ix (73 : Int32)) x9) r11) = true) (
          bI (evm d 157 [vR 12 r_0, vI (11 : Int32), vI (hI (sI h8 r7 (ix (73 : Int32)) x9) r11 (ix (73 : Int32))), vI (40 : Int32)] (sI h8 r7 (ix (73 : Int32)) x9)) fun x13 h12 =>
          ifp (inb (74 : Int32) (hN h12 r10) = true) (
          some (none, sI h12 r10 (ix (74 : Int32)) x13)) none) none) none)))
      (bV (evm d 167 [vR 12 r_0] h1) fun h14 =>
      some (none, h14)) := (evs_xpd _ tx_M_readLine [16, 94, 166, 215] 139 _).trans rfl
set_option maxRecDepth 100000 in
theorem e_M_readLine_166 (d : Nat) (r_0 : Nat) (h : Hp) : L_M_readLine_166 d r_0 h =
    bI (evm d 149 [vR 12 r_0, vI (12 : Int32)] h) fun x2 h1 =>
    ifp (x2 = 0)
      (L_M_readLine_215 d r_0 h1)
      (bI (evm d 160 [vR 12 r_0, vI (4 : Int32)] h1) fun x4 h3 =>
      ifp (x4 = 0)
        (some (none, h3))
        (bR (hR h3 r_0 10) fun r5 =>
        bI (evm d 156 [vR 12 r_0, vI (1 : Int32), vI (12 : Int32)] h3) fun x7 h6 =>
        ifp (inb (75 : Int32) (hN h6 r5) = true) (
        bR (hR (sI h6 r5 (ix (75 : Int32)) x7) r_0 10) fun r8 =>
        bI (evm d 157 [vR 12 r_0, vI (13 : Int32), vI (0 : Int32), vI (4 : Int32)] (sI h6 r5 (ix (75 : Int32)) x7)) fun x10 h9 =>
        ifp (inb (76 : Int32) (hN h9 r8) = true) (
        some (none, sI h9 r8 (ix (76 : Int32)) x10)) none) none)) := (evs_xpd _ tx_M_readLine [16, 94, 166, 215] 139 _).trans rfl
set_option maxRecDepth 100000 in
theorem e_M_readLine_215 (d : Nat) (r_0 : Nat) (h : Hp) : L_M_readLine_215 d r_0 h =
    bI (evm d 149 [vR 12 r_0, vI (14 : Int32)] h) fun x2 h1 =>
    ifp (x2 = 0)
      (bV (evm d 147 [vR 12 r_0, vI (1 : Int32)] h1) fun h3 =>
      some (none, h3))
      (bI (evm d 160 [vR 12 r_0, vI (5 : Int32)] h1) fun x5 h4 =>
      ifp (x5 = 0)
        (some (none, h4))
        (bR (hR h4 r_0 10) fun r6 =>
        ifp (inb (77 : Int32) (hN h4 r6) = true) (
        bV (evm d 169 [vR 12 r_0, vI (0 : Int32)] (sI h4 r6 (ix (77 : Int32)) (hI h4 r_0 13))) fun h7 =>
        bV (evm d 168 [vR 12 r_0, vI (0 : Int32), vI (0 : Int32)] h7) fun h8 =>
        some (none, h8)) none)) := (evs_xpd _ tx_M_readLine [16, 94, 166, 215] 139 _).trans rfl
set_option maxRecDepth 100000 in
theorem e_M_readLine (d : Nat) (r_0 : Nat) (h : Hp) : evm (d + 1) 161 [vR 12 r_0] h =
    bI (evm d 149 [vR 12 r_0, vI (2 : Int32)] h) fun x2 h1 =>
    ifp (x2 = 0)
      (bI (evm d 149 [vR 12 r_0, vI (3 : Int32)] h1) fun x5 h4 =>
      ifp (x5 = 0)
        (L_M_readLine_16 d r_0 h4)
        (bV (evm d 162 [vR 12 r_0] h4) fun h6 =>
        some (none, h6)))
      (bV (evm d 162 [vR 12 r_0] h1) fun h3 =>
      some (none, h3)) := (evs_xpd _ tx_M_readLine [16, 94, 166, 215] 139 _).trans rfl
noncomputable def L_M_readStep_25 (d : Nat) (r_0 : Nat) (xs0 : Int32) (h : Hp) : Option Rs := evs (evm d) tx_M_readStep (25, [some (vR 12 r_0), none, none], [vI xs0], h)
noncomputable def L_M_readStep_85 (d : Nat) (r_0 : Nat) (x_1 : Int32) (x_2 : Int32) (h : Hp) : Option Rs := evs (evm d) tx_M_readStep (85, [some (vR 12 r_0), some (vI x_1), some (vI x_2)], [], h)
set_option maxRecDepth 100000 in
theorem e_M_readStep_25 (d : Nat) (r_0 : Nat) (xs0 : Int32) (h : Hp) : L_M_readStep_25 d r_0 xs0 h =
    bR (hR (sI h r_0 7 ((hI h r_0 7) + (1 : Int32))) r_0 10) fun r1 =>
    ifp (inb (70 : Int32) (hN (sI h r_0 7 ((hI h r_0 7) + (1 : Int32))) r1) = true) (
    bI (evm d 156 [vR 12 r_0, vI (1 : Int32), vI ((hI (sI h r_0 7 ((hI h r_0 7) + (1 : Int32))) r1 (ix (70 : Int32))) - (1 : Int32))] (sI h r_0 7 ((hI h r_0 7) + (1 : Int32)))) fun x3 h2 =>
    ifp ((hI h2 r_0 8) = 0)
      (bR (hR h2 r_0 10) fun r4 =>
      ifp (inb ((96 : Int32) + x3) (hN h2 r4) = true) (
      ifp (0 < (hI h2 r4 (ix ((96 : Int32) + x3))))
        (bV (evm d 147 [vR 12 r_0, vI (3 : Int32)] (sI h2 r_0 7 ((hI h2 r_0 7) - (1 : Int32)))) fun h5 =>
        L_M_readStep_85 d r_0 xs0 x3 h5)
        (L_M_readStep_85 d r_0 xs0 x3 h2)) none)
      (L_M_readStep_85 d r_0 xs0 x3 h2)) none := (evs_xpd _ tx_M_readStep [25, 85] 65 _).trans rfl
set_option maxRecDepth 100000 in
theorem e_M_readStep_85 (d : Nat) (r_0 : Nat) (x_1 : Int32) (x_2 : Int32) (h : Hp) : L_M_readStep_85 d r_0 x_1 x_2 h =
    ifp ((hI h r_0 8) = 0)
      (bR (hR h r_0 10) fun r1 =>
      ifp (inb ((96 : Int32) + x_2) (hN h r1) = true) (
      some (none, sI h r1 (ix ((96 : Int32) + x_2)) x_1)) none)
      (some (none, h)) := (evs_xpd _ tx_M_readStep [25, 85] 65 _).trans rfl
set_option maxRecDepth 100000 in
theorem e_M_readStep (d : Nat) (r_0 : Nat) (h : Hp) : evm (d + 1) 162 [vR 12 r_0] h =
    bI (evm d 149 [vR 12 r_0, vI (2 : Int32)] h) fun x2 h1 =>
    ifp (x2 = 0)
      (bI (evm d 149 [vR 12 r_0, vI (3 : Int32)] h1) fun x4 h3 =>
      ifp (x4 = 0)
        (L_M_readStep_25 d r_0 (3 : Int32) h3)
        (L_M_readStep_25 d r_0 (2 : Int32) h3))
      (L_M_readStep_25 d r_0 (1 : Int32) h1) := (evs_xpd _ tx_M_readStep [25, 85] 65 _).trans rfl
noncomputable def L_M_readBar_79 (d : Nat) (r_0 : Nat) (x_1 : Int32) (x_2 : Int32) (x_3 : Int32) (h : Hp) : Option Rs := evs (evm d) tx_M_readBar (79, [some (vR 12 r_0), some (vI x_1), some (vI x_2), some (vI x_3)], [], h)
set_option maxRecDepth 100000 in
theorem e_M_readBar_79 (d : Nat) (r_0 : Nat) (x_1 : Int32) (x_2 : Int32) (x_3 : Int32) (h : Hp) : L_M_readBar_79 d r_0 x_1 x_2 x_3 h =
    ifp ((hI h r_0 8) = 0)
      (bR (hR h r_0 10) fun r1 =>
      ifp (inb ((86 : Int32) + x_1) (hN h r1) = true) (
      bR (hR (sI h r1 (ix ((86 : Int32) + x_1)) (((16 : Int32) * x_2) + x_3)) r_0 10) fun r2 =>
      ifp (inb (85 : Int32) (hN (sI h r1 (ix ((86 : Int32) + x_1)) (((16 : Int32) * x_2) + x_3)) r2) = true) (
      ifp (inb (85 : Int32) (hN (sI h r1 (ix ((86 : Int32) + x_1)) (((16 : Int32) * x_2) + x_3)) r2) = true) (
      some (none, sI (sI h r1 (ix ((86 : Int32) + x_1)) (((16 : Int32) * x_2) + x_3)) r2 (ix (85 : Int32)) ((hI (sI h r1 (ix ((86 : Int32) + x_1)) (((16 : Int32) * x_2) + x_3)) r2 (ix (85 : Int32))) + (1 : Int32)))) none) none) none)
      (some (none, h)) := (evs_xpd _ tx_M_readBar [79] 74 _).trans rfl
set_option maxRecDepth 100000 in
theorem e_M_readBar (d : Nat) (r_0 : Nat) (h : Hp) : evm (d + 1) 163 [vR 12 r_0] h =
    bR (hR h r_0 10) fun r1 =>
    ifp (inb (85 : Int32) (hN h r1) = true) (
    ifp ((hI h r1 (ix (85 : Int32))) = (8 : Int32))
      (bV (evm d 147 [vR 12 r_0, vI (5 : Int32)] h) fun h9 =>
      some (none, h9))
      (bI (evm d 156 [vR 12 r_0, vI (1 : Int32), vI (12 : Int32)] (sI h r_0 7 ((hI h r_0 7) + (1 : Int32)))) fun x3 h2 =>
      bI (evm d 156 [vR 12 r_0, vI (1 : Int32), vI (12 : Int32)] h2) fun x5 h4 =>
      ifp ((hI h4 r_0 8) = 0)
        (bI (evm d 164 [vR 12 r_0, vI (70 : Int32), vI x3, vI x5] h4) fun x7 h6 =>
        ifp (x7 = 0)
          (L_M_readBar_79 d r_0 (hI h r1 (ix (85 : Int32))) x3 x5 h6)
          (bV (evm d 147 [vR 12 r_0, vI (3 : Int32)] (sI h6 r_0 7 ((hI h6 r_0 7) - (1 : Int32)))) fun h8 =>
          L_M_readBar_79 d r_0 (hI h r1 (ix (85 : Int32))) x3 x5 h8))
        (L_M_readBar_79 d r_0 (hI h r1 (ix (85 : Int32))) x3 x5 h4))) none := (evs_xpd _ tx_M_readBar [79] 74 _).trans rfl
noncomputable def L_M_isBarred_6 (d : Nat) (r_0 : Nat) (x_1 : Int32) (x_2 : Int32) (x_3 : Int32) (x_4 : Int32) (x_5 : Int32) (h : Hp) : Option Rs := evs (evm d) tx_M_isBarred (6, [some (vR 12 r_0), some (vI x_1), some (vI x_2), some (vI x_3), some (vI x_4), some (vI x_5)], [], h)
set_option maxRecDepth 100000 in
theorem e_M_isBarred_6 (d : Nat) (r_0 : Nat) (x_1 : Int32) (x_2 : Int32) (x_3 : Int32) (x_4 : Int32) (x_5 : Int32) (h : Hp) : L_M_isBarred_6 d r_0 x_1 x_2 x_3 x_4 x_5 h =
    bR (hR h r_0 10) fun r1 =>
    ifp (inb (x_1 + (15 : Int32)) (hN h r1) = true) (
    ifp (x_5 < (hI h r1 (ix (x_1 + (15 : Int32)))))
      (ifp (x_4 = 0)
        (bR (hR h r_0 10) fun r2 =>
        ifp (inb ((x_1 + (16 : Int32)) + x_5) (hN h r2) = true) (
        ifp ((hI h r2 (ix ((x_1 + (16 : Int32)) + x_5))) = (((16 : Int32) * x_2) + x_3))
          (L_M_isBarred_6 d r_0 x_1 x_2 x_3 (1 : Int32) (x_5 + (1 : Int32)) h)
          (L_M_isBarred_6 d r_0 x_1 x_2 x_3 (0 : Int32) (x_5 + (1 : Int32)) h)) none)
        (L_M_isBarred_6 d r_0 x_1 x_2 x_3 (1 : Int32) (x_5 + (1 : Int32)) h))
      (bif isB x_4 then some (some (vI x_4), h) else none)) none := (evs_xpd _ tx_M_isBarred [6] 41 _).trans rfl
set_option maxRecDepth 100000 in
theorem e_M_isBarred (d : Nat) (r_0 : Nat) (x_1 : Int32) (x_2 : Int32) (x_3 : Int32) (h : Hp) : evm (d + 1) 164 [vR 12 r_0, vI x_1, vI x_2, vI x_3] h =
    L_M_isBarred_6 d r_0 x_1 x_2 x_3 (0 : Int32) (0 : Int32) h := (evs_xpd _ tx_M_isBarred [6] 41 _).trans rfl
noncomputable def L_M_readStrides_13 (d : Nat) (r_0 : Nat) (h : Hp) : Option Rs := evs (evm d) tx_M_readStrides (13, [some (vR 12 r_0)], [], h)
set_option maxRecDepth 100000 in
theorem e_M_readStrides_13 (d : Nat) (r_0 : Nat) (h : Hp) : L_M_readStrides_13 d r_0 h =
    ifp ((hI h r_0 8) = 0)
      (bR (hR h r_0 4) fun r1 =>
      ifp (inb (hI h r_0 7) (hN h r1) = true) (
      ifp ((hI h r1 (ix (hI h r_0 7))) = (2 : Int32))
        (bV (evm d 166 [vR 12 r_0] h) fun h2 =>
        L_M_readStrides_13 d r_0 h2)
        (some (none, h))) none)
      (some (none, h)) := (evs_xpd _ tx_M_readStrides [13] 26 _).trans rfl
set_option maxRecDepth 100000 in
theorem e_M_readStrides (d : Nat) (r_0 : Nat) (h : Hp) : evm (d + 1) 165 [vR 12 r_0] h =
    bI (evm d 160 [vR 12 r_0, vI (0 : Int32)] h) fun x2 h1 =>
    ifp (x2 = 0)
      (some (none, h1))
      (bV (evm d 166 [vR 12 r_0] h1) fun h3 =>
      L_M_readStrides_13 d r_0 h3) := (evs_xpd _ tx_M_readStrides [13] 26 _).trans rfl
noncomputable def L_M_readStride_39 (d : Nat) (r_0 : Nat) (x_1 : Int32) (x_2 : Int32) (x_3 : Int32) (h : Hp) : Option Rs := evs (evm d) tx_M_readStride (39, [some (vR 12 r_0), some (vI x_1), some (vI x_2), some (vI x_3)], [], h)
noncomputable def L_M_readStride_86 (d : Nat) (r_0 : Nat) (x_1 : Int32) (x_2 : Int32) (h : Hp) : Option Rs := evs (evm d) tx_M_readStride (86, [some (vR 12 r_0), some (vI x_1), some (vI x_2), none], [], h)
set_option maxRecDepth 100000 in
theorem e_M_readStride_39 (d : Nat) (r_0 : Nat) (x_1 : Int32) (x_2 : Int32) (x_3 : Int32) (h : Hp) : L_M_readStride_39 d r_0 x_1 x_2 x_3 h =
    ifp (x_3 < x_1)
      (ifp ((hI h r_0 8) = 0)
        (bR (hR h r_0 10) fun r3 =>
        ifp (inb ((79 : Int32) + x_3) (hN h r3) = true) (
        ifp ((hI h r3 (ix ((79 : Int32) + x_3))) = x_2)
          (bV (evm d 147 [vR 12 r_0, vI (3 : Int32)] h) fun h4 =>
          L_M_readStride_39 d r_0 x_1 x_2 (x_3 + (1 : Int32)) h4)
          (L_M_readStride_39 d r_0 x_1 x_2 (x_3 + (1 : Int32)) h)) none)
        (ifp (x_1 = (6 : Int32))
          (bV (evm d 147 [vR 12 r_0, vI (5 : Int32)] h) fun h2 =>
          L_M_readStride_86 d r_0 x_1 x_2 h2)
          (L_M_readStride_86 d r_0 x_1 x_2 h)))
      (ifp (x_1 = (6 : Int32))
        (bV (evm d 147 [vR 12 r_0, vI (5 : Int32)] h) fun h1 =>
        L_M_readStride_86 d r_0 x_1 x_2 h1)
        (L_M_readStride_86 d r_0 x_1 x_2 h)) := (evs_xpd _ tx_M_readStride [39, 86] 78 _).trans rfl
set_option maxRecDepth 100000 in
theorem e_M_readStride_86 (d : Nat) (r_0 : Nat) (x_1 : Int32) (x_2 : Int32) (h : Hp) : L_M_readStride_86 d r_0 x_1 x_2 h =
    ifp ((hI h r_0 8) = 0)
      (bR (hR (sI h r_0 7 ((hI h r_0 7) + (1 : Int32))) r_0 10) fun r1 =>
      ifp (inb ((79 : Int32) + x_1) (hN (sI h r_0 7 ((hI h r_0 7) + (1 : Int32))) r1) = true) (
      bR (hR (sI (sI h r_0 7 ((hI h r_0 7) + (1 : Int32))) r1 (ix ((79 : Int32) + x_1)) x_2) r_0 10) fun r2 =>
      ifp (inb (78 : Int32) (hN (sI (sI h r_0 7 ((hI h r_0 7) + (1 : Int32))) r1 (ix ((79 : Int32) + x_1)) x_2) r2) = true) (
      ifp (inb (78 : Int32) (hN (sI (sI h r_0 7 ((hI h r_0 7) + (1 : Int32))) r1 (ix ((79 : Int32) + x_1)) x_2) r2) = true) (
      some (none, sI (sI (sI h r_0 7 ((hI h r_0 7) + (1 : Int32))) r1 (ix ((79 : Int32) + x_1)) x_2) r2 (ix (78 : Int32)) ((hI (sI (sI h r_0 7 ((hI h r_0 7) + (1 : Int32))) r1 (ix ((79 : Int32) + x_1)) x_2) r2 (ix (78 : Int32))) + (1 : Int32)))) none) none) none)
      (some (none, h)) := (evs_xpd _ tx_M_readStride [39, 86] 78 _).trans rfl
set_option maxRecDepth 100000 in
theorem e_M_readStride (d : Nat) (r_0 : Nat) (h : Hp) : evm (d + 1) 166 [vR 12 r_0] h =
    bR (hR h r_0 10) fun r1 =>
    ifp (inb (78 : Int32) (hN h r1) = true) (
    bI (evm d 156 [vR 12 r_0, vI (1 : Int32), vI (12 : Int32)] h) fun x3 h2 =>
    ifp (0 < (hI h2 r_0 8))
      (L_M_readStride_39 d r_0 (hI h r1 (ix (78 : Int32))) x3 (0 : Int32) (sI h2 r_0 7 ((hI h2 r_0 7) - (0 : Int32))))
      (L_M_readStride_39 d r_0 (hI h r1 (ix (78 : Int32))) x3 (0 : Int32) (sI h2 r_0 7 ((hI h2 r_0 7) - (1 : Int32))))) none := (evs_xpd _ tx_M_readStride [39, 86] 78 _).trans rfl
noncomputable def L_M_readFoot_33 (d : Nat) (r_0 : Nat) (h : Hp) : Option Rs := evs (evm d) tx_M_readFoot (33, [some (vR 12 r_0)], [], h)
noncomputable def L_M_readFoot_53 (d : Nat) (r_0 : Nat) (xs0 : Int32) (xs1 : Int32) (rs2 : Nat) (h : Hp) : Option Rs := evs (evm d) tx_M_readFoot (53, [some (vR 12 r_0)], [vI xs0, vI xs1, vR 20 rs2], h)
set_option maxRecDepth 100000 in
theorem e_M_readFoot_33 (d : Nat) (r_0 : Nat) (h : Hp) : L_M_readFoot_33 d r_0 h =
    bR (hR h r_0 10) fun r1 =>
    bI (evm d 149 [vR 12 r_0, vI (8 : Int32)] h) fun x3 h2 =>
    ifp (x3 = 0)
      (L_M_readFoot_53 d r_0 (1 : Int32) (72 : Int32) r1 h2)
      (L_M_readFoot_53 d r_0 (0 : Int32) (72 : Int32) r1 h2) := (evs_xpd _ tx_M_readFoot [33, 53] 40 _).trans rfl
set_option maxRecDepth 100000 in
theorem e_M_readFoot_53 (d : Nat) (r_0 : Nat) (xs0 : Int32) (xs1 : Int32) (rs2 : Nat) (h : Hp) : L_M_readFoot_53 d r_0 xs0 xs1 rs2 h =
    ifp (inb xs1 (hN h rs2) = true) (
    some (none, sI (sI h rs2 (ix xs1) xs0) r_0 7 ((hI (sI h rs2 (ix xs1) xs0) r_0 7) + (1 : Int32)))) none := (evs_xpd _ tx_M_readFoot [33, 53] 40 _).trans rfl
set_option maxRecDepth 100000 in
theorem e_M_readFoot (d : Nat) (r_0 : Nat) (h : Hp) : evm (d + 1) 167 [vR 12 r_0] h =
    bI (evm d 160 [vR 12 r_0, vI (2 : Int32)] h) fun x2 h1 =>
    ifp (x2 = 0)
      (some (none, h1))
      (bI (evm d 149 [vR 12 r_0, vI (8 : Int32)] h1) fun x4 h3 =>
      ifp (x4 = 0)
        (bI (evm d 149 [vR 12 r_0, vI (9 : Int32)] h3) fun x6 h5 =>
        ifp (x6 = 0)
          (bV (evm d 147 [vR 12 r_0, vI (1 : Int32)] h5) fun h7 =>
          some (none, h7))
          (L_M_readFoot_33 d r_0 h5))
        (L_M_readFoot_33 d r_0 h3)) := (evs_xpd _ tx_M_readFoot [33, 53] 40 _).trans rfl
set_option maxRecDepth 100000 in
theorem e_M_emit (d : Nat) (r_0 : Nat) (x_1 : Int32) (x_2 : Int32) (h : Hp) : evm (d + 1) 168 [vR 12 r_0, vI x_1, vI x_2] h =
    bR (hR h r_0 11) fun r1 =>
    ifp (inb ((1100 : Int32) + (hI h r_0 13)) (hN h r1) = true) (
    bR (hR (sI h r1 (ix ((1100 : Int32) + (hI h r_0 13))) x_1) r_0 12) fun r2 =>
    ifp (inb ((1100 : Int32) + (hI (sI h r1 (ix ((1100 : Int32) + (hI h r_0 13))) x_1) r_0 13)) (hN (sI h r1 (ix ((1100 : Int32) + (hI h r_0 13))) x_1) r2) = true) (
    some (none, sI (sI (sI h r1 (ix ((1100 : Int32) + (hI h r_0 13))) x_1) r2 (ix ((1100 : Int32) + (hI (sI h r1 (ix ((1100 : Int32) + (hI h r_0 13))) x_1) r_0 13))) x_2) r_0 13 ((hI (sI (sI h r1 (ix ((1100 : Int32) + (hI h r_0 13))) x_1) r2 (ix ((1100 : Int32) + (hI (sI h r1 (ix ((1100 : Int32) + (hI h r_0 13))) x_1) r_0 13))) x_2) r_0 13) + (1 : Int32)))) none) none := (evs_xpd _ tx_M_emit [] 28 _).trans rfl
noncomputable def L_M_all_5 (d : Nat) (r_0 : Nat) (x_1 : Int32) (h : Hp) : Option Rs := evs (evm d) tx_M_all (5, [some (vR 12 r_0), some (vI x_1), none], [], h)
noncomputable def L_M_all_23 (d : Nat) (r_0 : Nat) (x_1 : Int32) (h : Hp) : Option Rs := evs (evm d) tx_M_all (23, [some (vR 12 r_0), some (vI x_1), none], [], h)
set_option maxRecDepth 100000 in
theorem e_M_all_5 (d : Nat) (r_0 : Nat) (x_1 : Int32) (h : Hp) : L_M_all_5 d r_0 x_1 h =
    bI (evm d 149 [vR 12 r_0, vI (16 : Int32)] h) fun x2 h1 =>
    ifp (x2 = 0)
      (bI (evm d 149 [vR 12 r_0, vI (17 : Int32)] h1) fun x4 h3 =>
      ifp (x4 = 0)
        (some (none, h3))
        (L_M_all_23 d r_0 x_1 h3))
      (L_M_all_23 d r_0 x_1 h1) := (evs_xpd _ tx_M_all [5, 23] 39 _).trans rfl
set_option maxRecDepth 100000 in
theorem e_M_all_23 (d : Nat) (r_0 : Nat) (x_1 : Int32) (h : Hp) : L_M_all_23 d r_0 x_1 h =
    bI (evm d 149 [vR 12 r_0, vI (16 : Int32)] h) fun x2 h1 =>
    bV (evm d 170 [vR 12 r_0, vI x_1] (sI h1 r_0 7 ((hI h1 r_0 7) + (1 : Int32)))) fun h3 =>
    ifp (x2 = 0)
      (bV (evm d 168 [vR 12 r_0, vI (10 : Int32), vI (0 : Int32)] h3) fun h4 =>
      L_M_all_5 d r_0 x_1 h4)
      (bV (evm d 168 [vR 12 r_0, vI (9 : Int32), vI (0 : Int32)] h3) fun h5 =>
      L_M_all_5 d r_0 x_1 h5) := (evs_xpd _ tx_M_all [5, 23] 39 _).trans rfl
set_option maxRecDepth 100000 in
theorem e_M_all (d : Nat) (r_0 : Nat) (x_1 : Int32) (h : Hp) : evm (d + 1) 169 [vR 12 r_0, vI x_1] h =
    bV (evm d 170 [vR 12 r_0, vI x_1] h) fun h1 =>
    L_M_all_5 d r_0 x_1 h1 := (evs_xpd _ tx_M_all [5, 23] 39 _).trans rfl
noncomputable def L_M_test_30 (d : Nat) (r_0 : Nat) (x_1 : Int32) (x_2 : Int32) (h : Hp) : Option Rs := evs (evm d) tx_M_test (30, [some (vR 12 r_0), some (vI x_1), some (vI x_2)], [], h)
set_option maxRecDepth 100000 in
theorem e_M_test_30 (d : Nat) (r_0 : Nat) (x_1 : Int32) (x_2 : Int32) (h : Hp) : L_M_test_30 d r_0 x_1 x_2 h =
    bV (evm d 171 [vR 12 r_0, vI x_1] h) fun h1 =>
    ifp (x_2 = 0)
      (bV (evm d 168 [vR 12 r_0, vI (8 : Int32), vI (0 : Int32)] h1) fun h2 =>
      some (none, h2))
      (bV (evm d 168 [vR 12 r_0, vI (7 : Int32), vI (0 : Int32)] h1) fun h3 =>
      some (none, h3)) := (evs_xpd _ tx_M_test [30] 32 _).trans rfl
set_option maxRecDepth 100000 in
theorem e_M_test (d : Nat) (r_0 : Nat) (x_1 : Int32) (h : Hp) : evm (d + 1) 170 [vR 12 r_0, vI x_1] h =
    bV (evm d 171 [vR 12 r_0, vI x_1] h) fun h1 =>
    bI (evm d 148 [vR 12 r_0, vI (60 : Int32)] h1) fun x3 h2 =>
    bI (evm d 151 [vR 12 r_0, vI (60 : Int32)] h2) fun x5 h4 =>
    ifp (x5 = 0)
      (bI (evm d 151 [vR 12 r_0, vI (61 : Int32)] h4) fun x7 h6 =>
      ifp (x7 = 0)
        (some (none, h6))
        (L_M_test_30 d r_0 x_1 x3 h6))
      (L_M_test_30 d r_0 x_1 x3 h4) := (evs_xpd _ tx_M_test [30] 32 _).trans rfl
noncomputable def L_M_sums_5 (d : Nat) (r_0 : Nat) (x_1 : Int32) (h : Hp) : Option Rs := evs (evm d) tx_M_sums (5, [some (vR 12 r_0), some (vI x_1), none], [], h)
noncomputable def L_M_sums_23 (d : Nat) (r_0 : Nat) (x_1 : Int32) (h : Hp) : Option Rs := evs (evm d) tx_M_sums (23, [some (vR 12 r_0), some (vI x_1), none], [], h)
set_option maxRecDepth 100000 in
theorem e_M_sums_5 (d : Nat) (r_0 : Nat) (x_1 : Int32) (h : Hp) : L_M_sums_5 d r_0 x_1 h =
    bI (evm d 148 [vR 12 r_0, vI (43 : Int32)] h) fun x2 h1 =>
    ifp (x2 = 0)
      (bI (evm d 148 [vR 12 r_0, vI (45 : Int32)] h1) fun x4 h3 =>
      ifp (x4 = 0)
        (some (none, h3))
        (L_M_sums_23 d r_0 x_1 h3))
      (L_M_sums_23 d r_0 x_1 h1) := (evs_xpd _ tx_M_sums [5, 23] 39 _).trans rfl
set_option maxRecDepth 100000 in
theorem e_M_sums_23 (d : Nat) (r_0 : Nat) (x_1 : Int32) (h : Hp) : L_M_sums_23 d r_0 x_1 h =
    bI (evm d 148 [vR 12 r_0, vI (43 : Int32)] h) fun x2 h1 =>
    bV (evm d 172 [vR 12 r_0, vI x_1] (sI h1 r_0 7 ((hI h1 r_0 7) + (1 : Int32)))) fun h3 =>
    ifp (x2 = 0)
      (bV (evm d 168 [vR 12 r_0, vI (5 : Int32), vI (0 : Int32)] h3) fun h4 =>
      L_M_sums_5 d r_0 x_1 h4)
      (bV (evm d 168 [vR 12 r_0, vI (4 : Int32), vI (0 : Int32)] h3) fun h5 =>
      L_M_sums_5 d r_0 x_1 h5) := (evs_xpd _ tx_M_sums [5, 23] 39 _).trans rfl
set_option maxRecDepth 100000 in
theorem e_M_sums (d : Nat) (r_0 : Nat) (x_1 : Int32) (h : Hp) : evm (d + 1) 171 [vR 12 r_0, vI x_1] h =
    bV (evm d 172 [vR 12 r_0, vI x_1] h) fun h1 =>
    L_M_sums_5 d r_0 x_1 h1 := (evs_xpd _ tx_M_sums [5, 23] 39 _).trans rfl
noncomputable def L_M_products_5 (d : Nat) (r_0 : Nat) (x_1 : Int32) (h : Hp) : Option Rs := evs (evm d) tx_M_products (5, [some (vR 12 r_0), some (vI x_1)], [], h)
set_option maxRecDepth 100000 in
theorem e_M_products_5 (d : Nat) (r_0 : Nat) (x_1 : Int32) (h : Hp) : L_M_products_5 d r_0 x_1 h =
    bI (evm d 151 [vR 12 r_0, vI (42 : Int32)] h) fun x2 h1 =>
    ifp (x2 = 0)
      (some (none, h1))
      (bV (evm d 173 [vR 12 r_0, vI x_1] h1) fun h3 =>
      bV (evm d 168 [vR 12 r_0, vI (6 : Int32), vI (0 : Int32)] h3) fun h4 =>
      L_M_products_5 d r_0 x_1 h4) := (evs_xpd _ tx_M_products [5] 21 _).trans rfl
set_option maxRecDepth 100000 in
theorem e_M_products (d : Nat) (r_0 : Nat) (x_1 : Int32) (h : Hp) : evm (d + 1) 172 [vR 12 r_0, vI x_1] h =
    bV (evm d 173 [vR 12 r_0, vI x_1] h) fun h1 =>
    L_M_products_5 d r_0 x_1 h1 := (evs_xpd _ tx_M_products [5] 21 _).trans rfl
noncomputable def L_M_takePart_32 (d : Nat) (r_0 : Nat) (x_1 : Int32) (x_2 : Int32) (x_3 : Int32) (x_4 : Int32) (h : Hp) : Option Rs := evs (evm d) tx_M_takePart (32, [some (vR 12 r_0), some (vI x_1), some (vI x_2), some (vI x_3), some (vI x_4)], [], h)
noncomputable def L_M_takePart_63 (d : Nat) (r_0 : Nat) (x_1 : Int32) (x_2 : Int32) (x_3 : Int32) (h : Hp) : Option Rs := evs (evm d) tx_M_takePart (63, [some (vR 12 r_0), some (vI x_1), some (vI x_2), some (vI x_3), none], [], h)
noncomputable def L_M_takePart_107 (d : Nat) (r_0 : Nat) (x_1 : Int32) (x_2 : Int32) (x_3 : Int32) (h : Hp) : Option Rs := evs (evm d) tx_M_takePart (107, [some (vR 12 r_0), some (vI x_1), some (vI x_2), some (vI x_3), none], [], h)
noncomputable def L_M_takePart_175 (d : Nat) (r_0 : Nat) (x_2 : Int32) (x_3 : Int32) (xs0 : Int32) (rs1 : Nat) (h : Hp) : Option Rs := evs (evm d) tx_M_takePart (175, [some (vR 12 r_0), none, some (vI x_2), some (vI x_3), none], [vI xs0, vR 12 rs1], h)
noncomputable def L_M_takePart_193 (d : Nat) (r_0 : Nat) (xs0 : Int32) (xs1 : Int32) (rs2 : Nat) (h : Hp) : Option Rs := evs (evm d) tx_M_takePart (193, [some (vR 12 r_0), none, none, none, none], [vI xs0, vI xs1, vR 12 rs2], h)
set_option maxRecDepth 100000 in
theorem e_M_takePart_32 (d : Nat) (r_0 : Nat) (x_1 : Int32) (x_2 : Int32) (x_3 : Int32) (x_4 : Int32) (h : Hp) : L_M_takePart_32 d r_0 x_1 x_2 x_3 x_4 h =
    ifp (x_4 < (4 : Int32))
      (bI (evm d 149 [vR 12 r_0, vI ((18 : Int32) + x_4)] h) fun x2 h1 =>
      ifp (x2 = 0)
        (L_M_takePart_32 d r_0 x_1 x_2 x_3 (x_4 + (1 : Int32)) h1)
        (L_M_takePart_32 d r_0 x_1 x_2 x_4 (x_4 + (1 : Int32)) h1))
      (L_M_takePart_63 d r_0 x_1 x_2 x_3 h) := (evs_xpd _ tx_M_takePart [32, 63, 107, 175, 193] 116 _).trans rfl
set_option maxRecDepth 100000 in
theorem e_M_takePart_63 (d : Nat) (r_0 : Nat) (x_1 : Int32) (x_2 : Int32) (x_3 : Int32) (h : Hp) : L_M_takePart_63 d r_0 x_1 x_2 x_3 h =
    ifp (x_3 < 0)
      (ifp (x_2 = 0)
        (bI (evm d 148 [vR 12 r_0, vI (40 : Int32)] h) fun x4 h3 =>
        ifp (x4 = 0)
          (bI (evm d 149 [vR 12 r_0, vI (15 : Int32)] h3) fun x7 h6 =>
          ifp (x7 = 0)
            (bV (evm d 147 [vR 12 r_0, vI (1 : Int32)] h6) fun h9 =>
            L_M_takePart_107 d r_0 x_1 x_2 x_3 h9)
            (ifp (x_1 = (5 : Int32))
              (bV (evm d 147 [vR 12 r_0, vI (5 : Int32)] h6) fun h8 =>
              L_M_takePart_107 d r_0 x_1 x_2 x_3 h8)
              (L_M_takePart_107 d r_0 x_1 x_2 x_3 h6)))
          (ifp (x_1 = (5 : Int32))
            (bV (evm d 147 [vR 12 r_0, vI (5 : Int32)] h3) fun h5 =>
            L_M_takePart_107 d r_0 x_1 x_2 x_3 h5)
            (L_M_takePart_107 d r_0 x_1 x_2 x_3 h3)))
        (ifp (x_1 = (5 : Int32))
          (bV (evm d 147 [vR 12 r_0, vI (5 : Int32)] h) fun h2 =>
          L_M_takePart_107 d r_0 x_1 x_2 x_3 h2)
          (L_M_takePart_107 d r_0 x_1 x_2 x_3 h)))
      (ifp (x_1 = (5 : Int32))
        (bV (evm d 147 [vR 12 r_0, vI (5 : Int32)] h) fun h1 =>
        L_M_takePart_107 d r_0 x_1 x_2 x_3 h1)
        (L_M_takePart_107 d r_0 x_1 x_2 x_3 h)) := (evs_xpd _ tx_M_takePart [32, 63, 107, 175, 193] 116 _).trans rfl
set_option maxRecDepth 100000 in
theorem e_M_takePart_107 (d : Nat) (r_0 : Nat) (x_1 : Int32) (x_2 : Int32) (x_3 : Int32) (h : Hp) : L_M_takePart_107 d r_0 x_1 x_2 x_3 h =
    ifp (0 < (hI h r_0 8))
      (some (none, h))
      (bI (evm d 152 [vR 12 r_0, vI (15 : Int32)] h) fun x2 h1 =>
      ifp (x2 = 0)
        (bI (evm d 151 [vR 12 r_0, vI (40 : Int32)] h1) fun x4 h3 =>
        ifp (x4 = 0)
          (ifp (x_2 = 0)
            (L_M_takePart_175 d r_0 x_2 x_3 (2 : Int32) r_0 h3)
            (L_M_takePart_175 d r_0 x_2 x_3 (1 : Int32) r_0 h3))
          (bV (evm d 169 [vR 12 r_0, vI (x_1 + (1 : Int32))] h3) fun h5 =>
          bV (evm d 150 [vR 12 r_0, vI (41 : Int32)] h5) fun h6 =>
          some (none, h6)))
        (bV (evm d 173 [vR 12 r_0, vI (x_1 + (1 : Int32))] h1) fun h7 =>
        bV (evm d 168 [vR 12 r_0, vI (3 : Int32), vI (0 : Int32)] h7) fun h8 =>
        some (none, h8))) := (evs_xpd _ tx_M_takePart [32, 63, 107, 175, 193] 116 _).trans rfl
set_option maxRecDepth 100000 in
theorem e_M_takePart_175 (d : Nat) (r_0 : Nat) (x_2 : Int32) (x_3 : Int32) (xs0 : Int32) (rs1 : Nat) (h : Hp) : L_M_takePart_175 d r_0 x_2 x_3 xs0 rs1 h =
    ifp (x_2 = 0)
      (L_M_takePart_193 d r_0 x_3 xs0 rs1 h)
      (bR (hR h r_0 6) fun r1 =>
      ifp (inb (hI h r_0 7) (hN h r1) = true) (
      L_M_takePart_193 d r_0 ((hL h r1 (ix (hI h r_0 7))).toInt32) xs0 rs1 h) none) := (evs_xpd _ tx_M_takePart [32, 63, 107, 175, 193] 116 _).trans rfl
set_option maxRecDepth 100000 in
theorem e_M_takePart_193 (d : Nat) (r_0 : Nat) (xs0 : Int32) (xs1 : Int32) (rs2 : Nat) (h : Hp) : L_M_takePart_193 d r_0 xs0 xs1 rs2 h =
    bV (evm d 168 [vR 12 rs2, vI xs1, vI xs0] h) fun h1 =>
    some (none, sI h1 r_0 7 ((hI h1 r_0 7) + (1 : Int32))) := (evs_xpd _ tx_M_takePart [32, 63, 107, 175, 193] 116 _).trans rfl
set_option maxRecDepth 100000 in
theorem e_M_takePart (d : Nat) (r_0 : Nat) (x_1 : Int32) (h : Hp) : evm (d + 1) 173 [vR 12 r_0, vI x_1] h =
    ifp (0 < (hI h r_0 8))
      (some (none, h))
      (bR (hR h r_0 4) fun r1 =>
      ifp (inb (hI h r_0 7) (hN h r1) = true) (
      ifp ((hI h r1 (ix (hI h r_0 7))) = (2 : Int32))
        (L_M_takePart_32 d r_0 x_1 (1 : Int32) (-1 : Int32) (0 : Int32) h)
        (L_M_takePart_32 d r_0 x_1 (0 : Int32) (-1 : Int32) (0 : Int32) h)) none) := (evs_xpd _ tx_M_takePart [32, 63, 107, 175, 193] 116 _).trans rfl
noncomputable def L_M_worthAt_4 (d : Nat) (r_0 : Nat) (x_2 : Int32) (x_3 : Int32) (h : Hp) : Option Rs := evs (evm d) tx_M_worthAt (4, [some (vR 12 r_0), none, some (vI x_2), some (vI x_3), none], [], h)
noncomputable def L_M_worthAt_33 (d : Nat) (r_0 : Nat) (x_2 : Int32) (x_3 : Int32) (x_4 : Int32) (h : Hp) : Option Rs := evs (evm d) tx_M_worthAt (33, [some (vR 12 r_0), none, some (vI x_2), some (vI x_3), some (vI x_4)], [], h)
noncomputable def L_M_worthAt_71 (d : Nat) (r_0 : Nat) (x_2 : Int32) (x_3 : Int32) (x_4 : Int32) (h : Hp) : Option Rs := evs (evm d) tx_M_worthAt (71, [some (vR 12 r_0), none, some (vI x_2), some (vI x_3), some (vI x_4)], [], h)
set_option maxRecDepth 100000 in
theorem e_M_worthAt_4 (d : Nat) (r_0 : Nat) (x_2 : Int32) (x_3 : Int32) (h : Hp) : L_M_worthAt_4 d r_0 x_2 x_3 h =
    bR (hR h r_0 11) fun r1 =>
    ifp (inb x_3 (hN h r1) = true) (
    ifp ((hI h r1 (ix x_3)) = 0)
      (bR (hR h r_0 16) fun r2 =>
      ifp (inb (0 : Int32) (hN h r2) = true) (
      some (some (vI (hI h r2 (ix (0 : Int32)))), h)) none)
      (bR (hR h r_0 11) fun r3 =>
      ifp (inb x_3 (hN h r3) = true) (
      ifp ((hI h r3 (ix x_3)) = (1 : Int32))
        (L_M_worthAt_33 d r_0 x_2 x_3 (hI h r3 (ix x_3)) h)
        (ifp ((hI h r3 (ix x_3)) = (2 : Int32))
          (L_M_worthAt_33 d r_0 x_2 x_3 (hI h r3 (ix x_3)) h)
          (L_M_worthAt_71 d r_0 x_2 x_3 (hI h r3 (ix x_3)) h))) none)) none := (evs_xpd _ tx_M_worthAt [4, 33, 71] 92 _).trans rfl
set_option maxRecDepth 100000 in
theorem e_M_worthAt_33 (d : Nat) (r_0 : Nat) (x_2 : Int32) (x_3 : Int32) (x_4 : Int32) (h : Hp) : L_M_worthAt_33 d r_0 x_2 x_3 x_4 h =
    bR (hR h r_0 16) fun r1 =>
    ifp (x_4 = (1 : Int32))
      (bR (hR h r_0 12) fun r4 =>
      ifp (inb x_3 (hN h r4) = true) (
      ifp (inb x_2 (hN h r1) = true) (
      L_M_worthAt_4 d r_0 (x_2 + (1 : Int32)) (x_3 + (1 : Int32)) (sI h r1 (ix x_2) (hI h r4 (ix x_3)))) none) none)
      (bR (hR h r_0 15) fun r2 =>
      bR (hR h r_0 12) fun r3 =>
      ifp (inb x_3 (hN h r3) = true) (
      ifp (inb (hI h r3 (ix x_3)) (hN h r2) = true) (
      ifp (inb x_2 (hN h r1) = true) (
      L_M_worthAt_4 d r_0 (x_2 + (1 : Int32)) (x_3 + (1 : Int32)) (sI h r1 (ix x_2) (hI h r2 (ix (hI h r3 (ix x_3)))))) none) none) none) := (evs_xpd _ tx_M_worthAt [4, 33, 71] 92 _).trans rfl
set_option maxRecDepth 100000 in
theorem e_M_worthAt_71 (d : Nat) (r_0 : Nat) (x_2 : Int32) (x_3 : Int32) (x_4 : Int32) (h : Hp) : L_M_worthAt_71 d r_0 x_2 x_3 x_4 h =
    ifp (x_4 = (3 : Int32))
      (bR (hR h r_0 16) fun r6 =>
      bR (hR h r_0 16) fun r7 =>
      ifp (inb (x_2 - (1 : Int32)) (hN h r7) = true) (
      ifp ((hI h r7 (ix (x_2 - (1 : Int32)))) = 0)
        (ifp (inb (x_2 - (1 : Int32)) (hN h r6) = true) (
        L_M_worthAt_4 d r_0 x_2 (x_3 + (1 : Int32)) (sI h r6 (ix (x_2 - (1 : Int32))) (1 : Int32))) none)
        (ifp (inb (x_2 - (1 : Int32)) (hN h r6) = true) (
        L_M_worthAt_4 d r_0 x_2 (x_3 + (1 : Int32)) (sI h r6 (ix (x_2 - (1 : Int32))) (0 : Int32))) none)) none)
      (bR (hR h r_0 16) fun r1 =>
      bR (hR h r_0 16) fun r2 =>
      ifp (inb ((x_2 + (-1 : Int32)) - (1 : Int32)) (hN h r2) = true) (
      bR (hR h r_0 16) fun r3 =>
      ifp (inb (x_2 + (-1 : Int32)) (hN h r3) = true) (
      bI (evm d 175 [vI x_4, vI (hI h r2 (ix ((x_2 + (-1 : Int32)) - (1 : Int32)))), vI (hI h r3 (ix (x_2 + (-1 : Int32))))] h) fun x5 h4 =>
      ifp (inb ((x_2 + (-1 : Int32)) - (1 : Int32)) (hN h4 r1) = true) (
      L_M_worthAt_4 d r_0 (x_2 + (-1 : Int32)) (x_3 + (1 : Int32)) (sI h4 r1 (ix ((x_2 + (-1 : Int32)) - (1 : Int32))) x5)) none) none) none) := (evs_xpd _ tx_M_worthAt [4, 33, 71] 92 _).trans rfl
set_option maxRecDepth 100000 in
theorem e_M_worthAt (d : Nat) (r_0 : Nat) (x_1 : Int32) (h : Hp) : evm (d + 1) 174 [vR 12 r_0, vI x_1] h =
    L_M_worthAt_4 d r_0 (0 : Int32) x_1 h := (evs_xpd _ tx_M_worthAt [4, 33, 71] 92 _).trans rfl
noncomputable def L_M_both_74 (d : Nat) (x_1 : Int32) (x_2 : Int32) (h : Hp) : Option Rs := evs (evm d) tx_M_both (74, [none, some (vI x_1), some (vI x_2)], [], h)
noncomputable def L_M_both_88 (d : Nat) (x_1 : Int32) (x_2 : Int32) (h : Hp) : Option Rs := evs (evm d) tx_M_both (88, [none, some (vI x_1), some (vI x_2)], [], h)
set_option maxRecDepth 100000 in
theorem e_M_both_74 (d : Nat) (x_1 : Int32) (x_2 : Int32) (h : Hp) : L_M_both_74 d x_1 x_2 h =
    ifp (x_1 = 0)
      (some (some (vI (0 : Int32)), h))
      (ifp (x_2 = 0)
        (some (some (vI (0 : Int32)), h))
        (some (some (vI (1 : Int32)), h))) := (evs_xpd _ tx_M_both [74, 88] 49 _).trans rfl
set_option maxRecDepth 100000 in
theorem e_M_both_88 (d : Nat) (x_1 : Int32) (x_2 : Int32) (h : Hp) : L_M_both_88 d x_1 x_2 h =
    ifp (x_1 = 0)
      (ifp (x_2 = 0)
        (some (some (vI (0 : Int32)), h))
        (some (some (vI (1 : Int32)), h)))
      (some (some (vI (1 : Int32)), h)) := (evs_xpd _ tx_M_both [74, 88] 49 _).trans rfl
set_option maxRecDepth 100000 in
theorem e_M_both (d : Nat) (x_0 : Int32) (x_1 : Int32) (x_2 : Int32) (h : Hp) : evm (d + 1) 175 [vI x_0, vI x_1, vI x_2] h =
    ifp (x_0 = (4 : Int32))
      (some (some (vI (x_1 + x_2)), h))
      (ifp (x_0 = ((4 : Int32) + 1))
      (some (some (vI (x_1 - x_2)), h))
      (ifp (x_0 = (((4 : Int32) + 1) + 1))
      (some (some (vI (x_1 * x_2)), h))
      (ifp (x_0 = ((((4 : Int32) + 1) + 1) + 1))
      (ifp (x_1 < x_2)
        (some (some (vI (1 : Int32)), h))
        (some (some (vI (0 : Int32)), h)))
      (ifp (x_0 = (((((4 : Int32) + 1) + 1) + 1) + 1))
      (ifp (x_1 = x_2)
        (some (some (vI (1 : Int32)), h))
        (some (some (vI (0 : Int32)), h)))
      (ifp (x_0 = ((((((4 : Int32) + 1) + 1) + 1) + 1) + 1))
      (L_M_both_74 d x_1 x_2 h)
      (
      L_M_both_88 d x_1 x_2 h)))))) := (evs_xpd _ tx_M_both [74, 88] 49 _).trans rfl
set_option maxRecDepth 100000 in
theorem e_M_steps (d : Nat) (r_0 : Nat) (h : Hp) : evm (d + 1) 176 [vR 12 r_0] h =
    bR (hR h r_0 10) fun r1 =>
    ifp (inb (0 : Int32) (hN h r1) = true) (
    some (some (vI (hI h r1 (ix (0 : Int32)))), h)) none := (evs_xpd _ tx_M_steps [] 10 _).trans rfl
set_option maxRecDepth 100000 in
theorem e_M_strides (d : Nat) (r_0 : Nat) (h : Hp) : evm (d + 1) 177 [vR 12 r_0] h =
    bR (hR h r_0 10) fun r1 =>
    ifp (inb (8 : Int32) (hN h r1) = true) (
    some (some (vI (hI h r1 (ix (8 : Int32)))), h)) none := (evs_xpd _ tx_M_strides [] 10 _).trans rfl
set_option maxRecDepth 100000 in
theorem e_M_strideOf (d : Nat) (r_0 : Nat) (x_1 : Int32) (h : Hp) : evm (d + 1) 178 [vR 12 r_0, vI x_1] h =
    bR (hR h r_0 10) fun r1 =>
    ifp (inb ((9 : Int32) + x_1) (hN h r1) = true) (
    some (some (vI (hI h r1 (ix ((9 : Int32) + x_1)))), h)) none := (evs_xpd _ tx_M_strideOf [] 12 _).trans rfl
set_option maxRecDepth 100000 in
theorem e_M_kindOf (d : Nat) (r_0 : Nat) (x_1 : Int32) (h : Hp) : evm (d + 1) 179 [vR 12 r_0, vI x_1] h =
    bR (hR h r_0 10) fun r1 =>
    ifp (inb ((26 : Int32) + x_1) (hN h r1) = true) (
    some (some (vI (hI h r1 (ix ((26 : Int32) + x_1)))), h)) none := (evs_xpd _ tx_M_kindOf [] 12 _).trans rfl
set_option maxRecDepth 100000 in
theorem e_M_takenMany (d : Nat) (r_0 : Nat) (h : Hp) : evm (d + 1) 180 [vR 12 r_0] h =
    bR (hR h r_0 17) fun r1 =>
    ifp (inb (0 : Int32) (hN h r1) = true) (
    some (some (vI (hI h r1 (ix (0 : Int32)))), h)) none := (evs_xpd _ tx_M_takenMany [] 10 _).trans rfl
noncomputable def L_M_indexOf_4 (d : Nat) (r_0 : Nat) (x_1 : Int32) (x_2 : Int32) (x_3 : Int32) (h : Hp) : Option Rs := evs (evm d) tx_M_indexOf (4, [some (vR 12 r_0), some (vI x_1), some (vI x_2), some (vI x_3)], [], h)
set_option maxRecDepth 100000 in
theorem e_M_indexOf_4 (d : Nat) (r_0 : Nat) (x_1 : Int32) (x_2 : Int32) (x_3 : Int32) (h : Hp) : L_M_indexOf_4 d r_0 x_1 x_2 x_3 h =
    bI (evm d 177 [vR 12 r_0] h) fun x2 h1 =>
    ifp (x_3 < x2)
      (bI (evm d 178 [vR 12 r_0, vI x_3] h1) fun x4 h3 =>
      ifp (x4 = x_1)
        (L_M_indexOf_4 d r_0 x_1 x_3 (x_3 + (1 : Int32)) h3)
        (L_M_indexOf_4 d r_0 x_1 x_2 (x_3 + (1 : Int32)) h3))
      (some (some (vI x_2), h1)) := (evs_xpd _ tx_M_indexOf [4] 26 _).trans rfl
set_option maxRecDepth 100000 in
theorem e_M_indexOf (d : Nat) (r_0 : Nat) (x_1 : Int32) (h : Hp) : evm (d + 1) 181 [vR 12 r_0, vI x_1] h =
    L_M_indexOf_4 d r_0 x_1 (-1 : Int32) (0 : Int32) h := (evs_xpd _ tx_M_indexOf [4] 26 _).trans rfl
set_option maxRecDepth 100000 in
theorem e_M_isGreat (d : Nat) (r_0 : Nat) (x_1 : Int32) (h : Hp) : evm (d + 1) 182 [vR 12 r_0, vI x_1] h =
    bR (hR h r_0 10) fun r1 =>
    ifp (inb (5 : Int32) (hN h r1) = true) (
    ifp ((hI h r1 (ix (5 : Int32))) < 0)
      (some (some (vI (0 : Int32)), h))
      (bR (hR h r_0 10) fun r2 =>
      ifp (inb (5 : Int32) (hN h r2) = true) (
      ifp (x_1 < (hI h r2 (ix (5 : Int32))))
        (some (some (vI (0 : Int32)), h))
        (some (some (vI (1 : Int32)), h))) none)) none := (evs_xpd _ tx_M_isGreat [] 20 _).trans rfl
noncomputable def L_M_findNow_22 (d : Nat) (r_0 : Nat) (x_1 : Int32) (h : Hp) : Option Rs := evs (evm d) tx_M_findNow (22, [some (vR 12 r_0), some (vI x_1), none], [], h)
noncomputable def L_M_findNow_82 (d : Nat) (r_0 : Nat) (x_1 : Int32) (x_2 : Int32) (xs0 : Int32) (xs1 : Int32) (rs2 : Nat) (h : Hp) : Option Rs := evs (evm d) tx_M_findNow (82, [some (vR 12 r_0), some (vI x_1), some (vI x_2)], [vI xs0, vI xs1, vR 12 rs2], h)
set_option maxRecDepth 100000 in
theorem e_M_findNow_22 (d : Nat) (r_0 : Nat) (x_1 : Int32) (h : Hp) : L_M_findNow_22 d r_0 x_1 h =
    bI (evm d 180 [vR 12 r_0] h) fun x2 h1 =>
    ifp (x_1 < x2)
      (bR (hR h1 r_0 17) fun r3 =>
      ifp (inb ((1 : Int32) + x_1) (hN h1 r3) = true) (
      bI (evm d 181 [vR 12 r_0, vI (hI h1 r3 (ix ((1 : Int32) + x_1)))] (sI h1 r_0 19 ((hI h1 r_0 19) + (hI h1 r3 (ix ((1 : Int32) + x_1)))))) fun x5 h4 =>
      bI (evm d 179 [vR 12 r_0, vI (hI (sI h4 r_0 20 ((1 : Int32) + x5)) r_0 19)] (sI h4 r_0 20 ((1 : Int32) + x5))) fun x7 h6 =>
      ifp (x7 = (2 : Int32))
        (L_M_findNow_82 d r_0 x_1 (hI h1 r3 (ix ((1 : Int32) + x_1))) (1 : Int32) (hI (sI h4 r_0 20 ((1 : Int32) + x5)) r_0 21) r_0 h6)
        (L_M_findNow_82 d r_0 x_1 (hI h1 r3 (ix ((1 : Int32) + x_1))) (0 : Int32) (hI (sI h4 r_0 20 ((1 : Int32) + x5)) r_0 21) r_0 h6)) none)
      (some (none, h1)) := (evs_xpd _ tx_M_findNow [22, 82] 72 _).trans rfl
set_option maxRecDepth 100000 in
theorem e_M_findNow_82 (d : Nat) (r_0 : Nat) (x_1 : Int32) (x_2 : Int32) (xs0 : Int32) (xs1 : Int32) (rs2 : Nat) (h : Hp) : L_M_findNow_82 d r_0 x_1 x_2 xs0 xs1 rs2 h =
    bI (evm d 182 [vR 12 r_0, vI x_2] (sI h rs2 21 (xs1 + xs0))) fun x2 h1 =>
    ifp (x2 = 0)
      (L_M_findNow_22 d r_0 (x_1 + (1 : Int32)) (sI h1 r_0 22 ((hI (sI h rs2 21 (xs1 + xs0)) r_0 22) + (0 : Int32))))
      (L_M_findNow_22 d r_0 (x_1 + (1 : Int32)) (sI h1 r_0 22 ((hI (sI h rs2 21 (xs1 + xs0)) r_0 22) + (1 : Int32)))) := (evs_xpd _ tx_M_findNow [22, 82] 72 _).trans rfl
set_option maxRecDepth 100000 in
theorem e_M_findNow (d : Nat) (r_0 : Nat) (h : Hp) : evm (d + 1) 183 [vR 12 r_0] h =
    L_M_findNow_22 d r_0 (0 : Int32) (sI (sI (sI (sI h r_0 19 (0 : Int32)) r_0 20 (0 : Int32)) r_0 21 (0 : Int32)) r_0 22 (0 : Int32)) := (evs_xpd _ tx_M_findNow [22, 82] 72 _).trans rfl
set_option maxRecDepth 100000 in
theorem e_M_placeOf (d : Nat) (x_0 : Int32) (x_1 : Int32) (x_2 : Int32) (x_3 : Int32) (x_4 : Int32) (h : Hp) : evm (d + 1) 184 [vI x_0, vI x_1, vI x_2, vI x_3, vI x_4] h =
    some (some (vI ((((((((x_0 * (7 : Int32)) + x_1) * (5 : Int32)) + x_2) * (5 : Int32)) + x_3) * (41 : Int32)) + x_4)), h) := (evs_xpd _ tx_M_placeOf [] 23 _).trans rfl
set_option maxRecDepth 100000 in
theorem e_M_creakOf (d : Nat) (r_0 : Nat) (x_1 : Int32) (h : Hp) : evm (d + 1) 185 [vR 12 r_0, vI x_1] h =
    bR (hR h r_0 10) fun r1 =>
    ifp (inb (1 : Int32) (hN h r1) = true) (
    ifp ((hI h r1 (ix (1 : Int32))) < 0)
      (some (some (vI (0 : Int32)), h))
      (some (some (vI x_1), h))) none := (evs_xpd _ tx_M_creakOf [] 14 _).trans rfl
end
section
set_option maxRecDepth 100000 in
theorem e_M_isShut (d : Nat) (r_0 : Nat) (x_1 : Int32) (h : Hp) : evm (d + 1) 186 [vR 12 r_0, vI x_1] h =
    bI (evm d 179 [vR 12 r_0, vI x_1] h) fun x2 h1 =>
    ifp (x2 = (1 : Int32))
      (some (some (vI (1 : Int32)), h1))
      (ifp ((hI h1 r_0 24) = 0)
        (some (some (vI (0 : Int32)), h1))
        (bR (hR h1 r_0 17) fun r3 =>
        ifp (inb ((41 : Int32) + x_1) (hN h1 r3) = true) (
        ifp ((hI h1 r3 (ix ((41 : Int32) + x_1))) = (2 : Int32))
          (some (some (vI (1 : Int32)), h1))
          (some (some (vI (0 : Int32)), h1))) none)) := (evs_xpd _ tx_M_isShut [] 25 _).trans rfl
set_option maxRecDepth 100000 in
theorem e_M_isMust (d : Nat) (r_0 : Nat) (x_1 : Int32) (h : Hp) : evm (d + 1) 187 [vR 12 r_0, vI x_1] h =
    bI (evm d 179 [vR 12 r_0, vI x_1] h) fun x2 h1 =>
    ifp (x2 = (3 : Int32))
      (some (some (vI (1 : Int32)), h1))
      (ifp ((hI h1 r_0 24) = 0)
        (some (some (vI (0 : Int32)), h1))
        (bR (hR h1 r_0 17) fun r3 =>
        ifp (inb ((41 : Int32) + x_1) (hN h1 r3) = true) (
        ifp ((hI h1 r3 (ix ((41 : Int32) + x_1))) = (1 : Int32))
          (some (some (vI (1 : Int32)), h1))
          (some (some (vI (0 : Int32)), h1))) none)) := (evs_xpd _ tx_M_isMust [] 25 _).trans rfl
noncomputable def L_M_passesMust_7 (d : Nat) (r_0 : Nat) (x_2 : Int32) (x_3 : Int32) (x_4 : Int32) (h : Hp) : Option Rs := evs (evm d) tx_M_passesMust (7, [some (vR 12 r_0), none, some (vI x_2), some (vI x_3), some (vI x_4)], [], h)
set_option maxRecDepth 100000 in
theorem e_M_passesMust_7 (d : Nat) (r_0 : Nat) (x_2 : Int32) (x_3 : Int32) (x_4 : Int32) (h : Hp) : L_M_passesMust_7 d r_0 x_2 x_3 x_4 h =
    ifp (x_4 < x_2)
      (ifp (x_3 = 0)
        (bI (evm d 187 [vR 12 r_0, vI x_4] h) fun x2 h1 =>
        ifp (x2 = 0)
          (L_M_passesMust_7 d r_0 x_2 (0 : Int32) (x_4 + (1 : Int32)) h1)
          (L_M_passesMust_7 d r_0 x_2 (1 : Int32) (x_4 + (1 : Int32)) h1))
        (L_M_passesMust_7 d r_0 x_2 (1 : Int32) (x_4 + (1 : Int32)) h))
      (bif isB x_3 then some (some (vI x_3), h) else none) := (evs_xpd _ tx_M_passesMust [7] 28 _).trans rfl
set_option maxRecDepth 100000 in
theorem e_M_passesMust (d : Nat) (r_0 : Nat) (x_1 : Int32) (x_2 : Int32) (h : Hp) : evm (d + 1) 188 [vR 12 r_0, vI x_1, vI x_2] h =
    L_M_passesMust_7 d r_0 x_2 (0 : Int32) (x_1 + (1 : Int32)) h := (evs_xpd _ tx_M_passesMust [7] 28 _).trans rfl
noncomputable def L_M_mayNext_63 (d : Nat) (r_0 : Nat) (x_1 : Int32) (x_3 : Int32) (x_4 : Int32) (x_5 : Int32) (x_7 : Int32) (h : Hp) : Option Rs := evs (evm d) tx_M_mayNext (63, [some (vR 12 r_0), some (vI x_1), none, some (vI x_3), some (vI x_4), some (vI x_5), none, some (vI x_7), none], [], h)
noncomputable def L_M_mayNext_116 (d : Nat) (r_0 : Nat) (x_4 : Int32) (x_7 : Int32) (xs0 : Int32) (h : Hp) : Option Rs := evs (evm d) tx_M_mayNext (116, [some (vR 12 r_0), none, none, none, some (vI x_4), none, none, some (vI x_7), none], [vI xs0], h)
set_option maxRecDepth 100000 in
theorem e_M_mayNext_63 (d : Nat) (r_0 : Nat) (x_1 : Int32) (x_3 : Int32) (x_4 : Int32) (x_5 : Int32) (x_7 : Int32) (h : Hp) : L_M_mayNext_63 d r_0 x_1 x_3 x_4 x_5 x_7 h =
    bR (hR h r_0 10) fun r1 =>
    ifp (inb (4 : Int32) (hN h r1) = true) (
    ifp ((hI h r1 (ix (4 : Int32))) < (x_5 + (1 : Int32)))
      (some (some (vI (0 : Int32)), h))
      (bI (evm d 179 [vR 12 r_0, vI (x_1 + x_7)] h) fun x3 h2 =>
      ifp (x3 = (2 : Int32))
        (bR (hR h2 r_0 10) fun r4 =>
        ifp (inb (1 : Int32) (hN h2 r4) = true) (
        ifp ((hI h2 r4 (ix (1 : Int32))) < 0)
          (L_M_mayNext_116 d r_0 x_4 x_7 (0 : Int32) h2)
          (bR (hR h2 r_0 10) fun r5 =>
          ifp (inb (1 : Int32) (hN h2 r5) = true) (
          ifp ((hI h2 r5 (ix (1 : Int32))) < (x_3 + (1 : Int32)))
            (L_M_mayNext_116 d r_0 x_4 x_7 (1 : Int32) h2)
            (L_M_mayNext_116 d r_0 x_4 x_7 (0 : Int32) h2)) none)) none)
        (L_M_mayNext_116 d r_0 x_4 x_7 (0 : Int32) h2))) none := (evs_xpd _ tx_M_mayNext [63, 116] 92 _).trans rfl
set_option maxRecDepth 100000 in
theorem e_M_mayNext_116 (d : Nat) (r_0 : Nat) (x_4 : Int32) (x_7 : Int32) (xs0 : Int32) (h : Hp) : L_M_mayNext_116 d r_0 x_4 x_7 xs0 h =
    ifp (xs0 = 0)
      (bI (evm d 182 [vR 12 r_0, vI x_7] h) fun x2 h1 =>
      ifp (x2 = 0)
        (some (some (vI (1 : Int32)), h1))
        (bR (hR h1 r_0 10) fun r3 =>
        ifp (inb (6 : Int32) (hN h1 r3) = true) (
        ifp ((hI h1 r3 (ix (6 : Int32))) < (x_4 + (1 : Int32)))
          (some (some (vI (0 : Int32)), h1))
          (some (some (vI (1 : Int32)), h1))) none))
      (some (some (vI (0 : Int32)), h)) := (evs_xpd _ tx_M_mayNext [63, 116] 92 _).trans rfl
set_option maxRecDepth 100000 in
theorem e_M_mayNext (d : Nat) (r_0 : Nat) (x_1 : Int32) (x_2 : Int32) (x_3 : Int32) (x_4 : Int32) (x_5 : Int32) (x_6 : Int32) (h : Hp) : evm (d + 1) 189 [vR 12 r_0, vI x_1, vI x_2, vI x_3, vI x_4, vI x_5, vI x_6] h =
    bI (evm d 178 [vR 12 r_0, vI x_6] h) fun x2 h1 =>
    bI (evm d 176 [vR 12 r_0] h1) fun x4 h3 =>
    ifp (x4 < (x_1 + x2))
      (some (some (vI (0 : Int32)), h3))
      (bI (evm d 186 [vR 12 r_0, vI (x_1 + x2)] h3) fun x6 h5 =>
      ifp (x6 = 0)
        (bI (evm d 188 [vR 12 r_0, vI x_1, vI (x_1 + x2)] h5) fun x8 h7 =>
        ifp (x8 = 0)
          (ifp (0 < x_2)
            (bI (evm d 178 [vR 12 r_0, vI (x_2 - (1 : Int32))] h7) fun x10 h9 =>
            bI (evm d 164 [vR 12 r_0, vI (0 : Int32), vI x10, vI x2] h9) fun x12 h11 =>
            ifp (x12 = 0)
              (L_M_mayNext_63 d r_0 x_1 x_3 x_4 x_5 x2 h11)
              (some (some (vI (0 : Int32)), h11)))
            (L_M_mayNext_63 d r_0 x_1 x_3 x_4 x_5 x2 h7))
          (some (some (vI (0 : Int32)), h7)))
        (some (some (vI (0 : Int32)), h5))) := (evs_xpd _ tx_M_mayNext [63, 116] 92 _).trans rfl
noncomputable def L_M_nextAt_43 (d : Nat) (r_0 : Nat) (x_4 : Int32) (x_5 : Int32) (x_7 : Int32) (xs0 : Int32) (xs1 : Int32) (xs2 : Int32) (xs3 : Int32) (h : Hp) : Option Rs := evs (evm d) tx_M_nextAt (43, [some (vR 12 r_0), none, none, none, some (vI x_4), some (vI x_5), none, some (vI x_7)], [vI xs0, vI xs1, vI xs2, vI xs3], h)
set_option maxRecDepth 100000 in
theorem e_M_nextAt_43 (d : Nat) (r_0 : Nat) (x_4 : Int32) (x_5 : Int32) (x_7 : Int32) (xs0 : Int32) (xs1 : Int32) (xs2 : Int32) (xs3 : Int32) (h : Hp) : L_M_nextAt_43 d r_0 x_4 x_5 x_7 xs0 xs1 xs2 xs3 h =
    bI (evm d 182 [vR 12 r_0, vI x_7] h) fun x2 h1 =>
    ifp (x2 = 0)
      (bI (evm d 184 [vI xs3, vI xs2, vI (xs1 + xs0), vI (x_4 + (0 : Int32)), vI (x_5 + (1 : Int32))] h1) fun x4 h3 =>
      some (some (vI x4), h3))
      (bI (evm d 184 [vI xs3, vI xs2, vI (xs1 + xs0), vI (x_4 + (1 : Int32)), vI (x_5 + (1 : Int32))] h1) fun x6 h5 =>
      some (some (vI x6), h5)) := (evs_xpd _ tx_M_nextAt [43] 46 _).trans rfl
set_option maxRecDepth 100000 in
theorem e_M_nextAt (d : Nat) (r_0 : Nat) (x_1 : Int32) (x_2 : Int32) (x_3 : Int32) (x_4 : Int32) (x_5 : Int32) (x_6 : Int32) (h : Hp) : evm (d + 1) 190 [vR 12 r_0, vI x_1, vI x_2, vI x_3, vI x_4, vI x_5, vI x_6] h =
    bI (evm d 178 [vR 12 r_0, vI x_6] h) fun x2 h1 =>
    bI (evm d 179 [vR 12 r_0, vI (x_1 + x2)] h1) fun x4 h3 =>
    ifp (x4 = (2 : Int32))
      (bR (hR h3 r_0 10) fun r5 =>
      ifp (inb (1 : Int32) (hN h3 r5) = true) (
      ifp ((hI h3 r5 (ix (1 : Int32))) < 0)
        (L_M_nextAt_43 d r_0 x_4 x_5 x2 (0 : Int32) x_3 (x_6 + (1 : Int32)) (x_1 + x2) h3)
        (L_M_nextAt_43 d r_0 x_4 x_5 x2 (1 : Int32) x_3 (x_6 + (1 : Int32)) (x_1 + x2) h3)) none)
      (L_M_nextAt_43 d r_0 x_4 x_5 x2 (0 : Int32) x_3 (x_6 + (1 : Int32)) (x_1 + x2) h3) := (evs_xpd _ tx_M_nextAt [43] 46 _).trans rfl
set_option maxRecDepth 100000 in
theorem e_M_mostCreaks (d : Nat) (r_0 : Nat) (h : Hp) : evm (d + 1) 191 [vR 12 r_0] h =
    bR (hR h r_0 10) fun r1 =>
    ifp (inb (1 : Int32) (hN h r1) = true) (
    ifp ((hI h r1 (ix (1 : Int32))) < 0)
      (some (some (vI (0 : Int32)), h))
      (bR (hR h r_0 10) fun r2 =>
      ifp (inb (1 : Int32) (hN h r2) = true) (
      some (some (vI (hI h r2 (ix (1 : Int32)))), h)) none)) none := (evs_xpd _ tx_M_mostCreaks [] 17 _).trans rfl
set_option maxRecDepth 100000 in
theorem e_M_mostGreats (d : Nat) (r_0 : Nat) (h : Hp) : evm (d + 1) 192 [vR 12 r_0] h =
    bR (hR h r_0 10) fun r1 =>
    ifp (inb (5 : Int32) (hN h r1) = true) (
    ifp ((hI h r1 (ix (5 : Int32))) < 0)
      (some (some (vI (0 : Int32)), h))
      (bR (hR h r_0 10) fun r2 =>
      ifp (inb (6 : Int32) (hN h r2) = true) (
      some (some (vI (hI h r2 (ix (6 : Int32)))), h)) none)) none := (evs_xpd _ tx_M_mostGreats [] 17 _).trans rfl
noncomputable def L_M_isLawfulAt_28 (d : Nat) (r_0 : Nat) (x_1 : Int32) (xs0 : Int32) (h : Hp) : Option Rs := evs (evm d) tx_M_isLawfulAt (28, [some (vR 12 r_0), some (vI x_1), none], [vI xs0], h)
set_option maxRecDepth 100000 in
theorem e_M_isLawfulAt_28 (d : Nat) (r_0 : Nat) (x_1 : Int32) (xs0 : Int32) (h : Hp) : L_M_isLawfulAt_28 d r_0 x_1 xs0 h =
    ifp (xs0 = 0)
      (some (some (vI (0 : Int32)), h))
      (bR (hR h r_0 10) fun r1 =>
      ifp (inb (3 : Int32) (hN h r1) = true) (
      ifp (x_1 < (hI h r1 (ix (3 : Int32))))
        (some (some (vI (0 : Int32)), h))
        (bR (hR h r_0 10) fun r2 =>
        ifp (inb (4 : Int32) (hN h r2) = true) (
        ifp ((hI h r2 (ix (4 : Int32))) < x_1)
          (some (some (vI (0 : Int32)), h))
          (some (some (vI (1 : Int32)), h))) none)) none) := (evs_xpd _ tx_M_isLawfulAt [28] 42 _).trans rfl
set_option maxRecDepth 100000 in
theorem e_M_isLawfulAt (d : Nat) (r_0 : Nat) (x_1 : Int32) (h : Hp) : evm (d + 1) 193 [vR 12 r_0, vI x_1] h =
    bR (hR h r_0 10) fun r1 =>
    ifp (inb (2 : Int32) (hN h r1) = true) (
    ifp ((hI h r1 (ix (2 : Int32))) < 0)
      (L_M_isLawfulAt_28 d r_0 x_1 (1 : Int32) h)
      (bR (hR h r_0 10) fun r2 =>
      ifp (inb (2 : Int32) (hN h r2) = true) (
      ifp ((2 : Int32) = 0) none (
      ifp ((hI h r2 (ix (2 : Int32))) = (irem (x_1 + (1 : Int32)) (2 : Int32)))
        (L_M_isLawfulAt_28 d r_0 x_1 (1 : Int32) h)
        (L_M_isLawfulAt_28 d r_0 x_1 (0 : Int32) h))) none)) none := (evs_xpd _ tx_M_isLawfulAt [28] 42 _).trans rfl
noncomputable def L_M_lays_5 (d : Nat) (r_0 : Nat) (x_1 : Int32) (x_2 : Int32) (x_3 : Int32) (h : Hp) : Option Rs := evs (evm d) tx_M_lays (5, [some (vR 12 r_0), some (vI x_1), some (vI x_2), some (vI x_3), none, none, none, none], [], h)
noncomputable def L_M_lays_12 (d : Nat) (r_0 : Nat) (x_1 : Int32) (x_2 : Int32) (x_3 : Int32) (x_4 : Int32) (h : Hp) : Option Rs := evs (evm d) tx_M_lays (12, [some (vR 12 r_0), some (vI x_1), some (vI x_2), some (vI x_3), some (vI x_4), none, none, none], [], h)
noncomputable def L_M_lays_24 (d : Nat) (r_0 : Nat) (x_1 : Int32) (x_2 : Int32) (x_3 : Int32) (x_4 : Int32) (x_5 : Int32) (h : Hp) : Option Rs := evs (evm d) tx_M_lays (24, [some (vR 12 r_0), some (vI x_1), some (vI x_2), some (vI x_3), some (vI x_4), some (vI x_5), none, none], [], h)
noncomputable def L_M_lays_36 (d : Nat) (r_0 : Nat) (x_1 : Int32) (x_2 : Int32) (x_3 : Int32) (x_4 : Int32) (x_5 : Int32) (x_6 : Int32) (h : Hp) : Option Rs := evs (evm d) tx_M_lays (36, [some (vR 12 r_0), some (vI x_1), some (vI x_2), some (vI x_3), some (vI x_4), some (vI x_5), some (vI x_6), none], [], h)
noncomputable def L_M_lays_48 (d : Nat) (r_0 : Nat) (x_1 : Int32) (x_2 : Int32) (x_3 : Int32) (x_4 : Int32) (x_5 : Int32) (x_6 : Int32) (x_7 : Int32) (h : Hp) : Option Rs := evs (evm d) tx_M_lays (48, [some (vR 12 r_0), some (vI x_1), some (vI x_2), some (vI x_3), some (vI x_4), some (vI x_5), some (vI x_6), some (vI x_7)], [], h)
set_option maxRecDepth 100000 in
theorem e_M_lays_5 (d : Nat) (r_0 : Nat) (x_1 : Int32) (x_2 : Int32) (x_3 : Int32) (h : Hp) : L_M_lays_5 d r_0 x_1 x_2 x_3 h =
    ifp (x_3 < 0)
      (some (none, h))
      (L_M_lays_12 d r_0 x_1 x_2 x_3 (0 : Int32) h) := (evs_xpd _ tx_M_lays [5, 12, 24, 36, 48] 71 _).trans rfl
set_option maxRecDepth 100000 in
theorem e_M_lays_12 (d : Nat) (r_0 : Nat) (x_1 : Int32) (x_2 : Int32) (x_3 : Int32) (x_4 : Int32) (h : Hp) : L_M_lays_12 d r_0 x_1 x_2 x_3 x_4 h =
    bI (evm d 177 [vR 12 r_0] h) fun x2 h1 =>
    ifp (x2 < x_4)
      (L_M_lays_5 d r_0 x_1 x_2 (x_3 + (-1 : Int32)) h1)
      (L_M_lays_24 d r_0 x_1 x_2 x_3 x_4 (0 : Int32) h1) := (evs_xpd _ tx_M_lays [5, 12, 24, 36, 48] 71 _).trans rfl
set_option maxRecDepth 100000 in
theorem e_M_lays_24 (d : Nat) (r_0 : Nat) (x_1 : Int32) (x_2 : Int32) (x_3 : Int32) (x_4 : Int32) (x_5 : Int32) (h : Hp) : L_M_lays_24 d r_0 x_1 x_2 x_3 x_4 x_5 h =
    bI (evm d 191 [vR 12 r_0] h) fun x2 h1 =>
    ifp (x2 < x_5)
      (L_M_lays_12 d r_0 x_1 x_2 x_3 (x_4 + (1 : Int32)) h1)
      (L_M_lays_36 d r_0 x_1 x_2 x_3 x_4 x_5 (0 : Int32) h1) := (evs_xpd _ tx_M_lays [5, 12, 24, 36, 48] 71 _).trans rfl
set_option maxRecDepth 100000 in
theorem e_M_lays_36 (d : Nat) (r_0 : Nat) (x_1 : Int32) (x_2 : Int32) (x_3 : Int32) (x_4 : Int32) (x_5 : Int32) (x_6 : Int32) (h : Hp) : L_M_lays_36 d r_0 x_1 x_2 x_3 x_4 x_5 x_6 h =
    bI (evm d 192 [vR 12 r_0] h) fun x2 h1 =>
    ifp (x2 < x_6)
      (L_M_lays_24 d r_0 x_1 x_2 x_3 x_4 (x_5 + (1 : Int32)) h1)
      (L_M_lays_48 d r_0 x_1 x_2 x_3 x_4 x_5 x_6 (0 : Int32) h1) := (evs_xpd _ tx_M_lays [5, 12, 24, 36, 48] 71 _).trans rfl
set_option maxRecDepth 100000 in
theorem e_M_lays_48 (d : Nat) (r_0 : Nat) (x_1 : Int32) (x_2 : Int32) (x_3 : Int32) (x_4 : Int32) (x_5 : Int32) (x_6 : Int32) (x_7 : Int32) (h : Hp) : L_M_lays_48 d r_0 x_1 x_2 x_3 x_4 x_5 x_6 x_7 h =
    ifp (x_3 < x_7)
      (L_M_lays_36 d r_0 x_1 x_2 x_3 x_4 x_5 (x_6 + (1 : Int32)) h)
      (bR (hR h r_0 23) fun r1 =>
      bI (evm d 184 [vI x_3, vI x_4, vI x_5, vI x_6, vI x_7] h) fun x3 h2 =>
      ifp (x_2 = 0)
        (bL (evm d 195 [vR 12 r_0, vI x_3, vI x_4, vI x_5, vI x_6, vI x_7, vI x_1] h2) fun y5 h4 =>
        ifp (inb x3 (hN h4 r1) = true) (
        L_M_lays_48 d r_0 x_1 x_2 x_3 x_4 x_5 x_6 (x_7 + (1 : Int32)) (sL h4 r1 (ix x3) y5)) none)
        (bL (evm d 196 [vR 12 r_0, vI x_3, vI x_4, vI x_5, vI x_6, vI x_7] h2) fun y7 h6 =>
        ifp (inb x3 (hN h6 r1) = true) (
        L_M_lays_48 d r_0 x_1 x_2 x_3 x_4 x_5 x_6 (x_7 + (1 : Int32)) (sL h6 r1 (ix x3) y7)) none)) := (evs_xpd _ tx_M_lays [5, 12, 24, 36, 48] 71 _).trans rfl
set_option maxRecDepth 100000 in
theorem e_M_lays (d : Nat) (r_0 : Nat) (x_1 : Int32) (x_2 : Int32) (h : Hp) : evm (d + 1) 194 [vR 12 r_0, vI x_1, vI x_2] h =
    bI (evm d 176 [vR 12 r_0] h) fun x2 h1 =>
    L_M_lays_5 d r_0 x_1 x_2 x2 h1 := (evs_xpd _ tx_M_lays [5, 12, 24, 36, 48] 71 _).trans rfl
noncomputable def L_M_ways_41 (d : Nat) (r_0 : Nat) (x_1 : Int32) (x_2 : Int32) (x_3 : Int32) (x_4 : Int32) (x_5 : Int32) (y_7 : Int64) (x_9 : Int32) (h : Hp) : Option Rs := evs (evm d) tx_M_ways (41, [some (vR 12 r_0), some (vI x_1), some (vI x_2), some (vI x_3), some (vI x_4), some (vI x_5), none, some (vL y_7), none, some (vI x_9)], [], h)
set_option maxRecDepth 100000 in
theorem e_M_ways_41 (d : Nat) (r_0 : Nat) (x_1 : Int32) (x_2 : Int32) (x_3 : Int32) (x_4 : Int32) (x_5 : Int32) (y_7 : Int64) (x_9 : Int32) (h : Hp) : L_M_ways_41 d r_0 x_1 x_2 x_3 x_4 x_5 y_7 x_9 h =
    bI (evm d 177 [vR 12 r_0] h) fun x2 h1 =>
    ifp (x_9 < x2)
      (bI (evm d 189 [vR 12 r_0, vI x_1, vI x_2, vI x_3, vI x_4, vI x_5, vI x_9] h1) fun x4 h3 =>
      ifp (x4 = 0)
        (L_M_ways_41 d r_0 x_1 x_2 x_3 x_4 x_5 (y_7 + (0 : Int64)) (x_9 + (1 : Int32)) h3)
        (bR (hR h3 r_0 23) fun r5 =>
        bI (evm d 190 [vR 12 r_0, vI x_1, vI x_2, vI x_3, vI x_4, vI x_5, vI x_9] h3) fun x7 h6 =>
        ifp (inb x7 (hN h6 r5) = true) (
        L_M_ways_41 d r_0 x_1 x_2 x_3 x_4 x_5 (y_7 + (hL h6 r5 (ix x7))) (x_9 + (1 : Int32)) h6) none))
      (some (some (vL y_7), h1)) := (evs_xpd _ tx_M_ways [41] 59 _).trans rfl
set_option maxRecDepth 100000 in
theorem e_M_ways (d : Nat) (r_0 : Nat) (x_1 : Int32) (x_2 : Int32) (x_3 : Int32) (x_4 : Int32) (x_5 : Int32) (x_6 : Int32) (h : Hp) : evm (d + 1) 195 [vR 12 r_0, vI x_1, vI x_2, vI x_3, vI x_4, vI x_5, vI x_6] h =
    bI (evm d 176 [vR 12 r_0] h) fun x2 h1 =>
    ifp (x_1 = x2)
      (bI (evm d 193 [vR 12 r_0, vI x_5] h1) fun x4 h3 =>
      ifp (x4 = 0)
        (some (some (vL (0 : Int64)), h3))
        (ifp (x_6 < 0)
          (some (some (vL (1 : Int64)), h3))
          (ifp (x_6 = x_5)
            (some (some (vL (1 : Int64)), h3))
            (some (some (vL (0 : Int64)), h3)))))
      (L_M_ways_41 d r_0 x_1 x_2 x_3 x_4 x_5 (0 : Int64) (0 : Int32) h1) := (evs_xpd _ tx_M_ways [41] 59 _).trans rfl
noncomputable def L_M_wins_6 (d : Nat) (r_0 : Nat) (x_1 : Int32) (x_2 : Int32) (x_3 : Int32) (x_4 : Int32) (x_5 : Int32) (x_6 : Int32) (x_7 : Int32) (h : Hp) : Option Rs := evs (evm d) tx_M_wins (6, [some (vR 12 r_0), some (vI x_1), some (vI x_2), some (vI x_3), some (vI x_4), some (vI x_5), some (vI x_6), some (vI x_7)], [], h)
noncomputable def L_M_wins_28 (d : Nat) (r_0 : Nat) (x_1 : Int32) (x_2 : Int32) (x_3 : Int32) (x_4 : Int32) (x_5 : Int32) (x_7 : Int32) (h : Hp) : Option Rs := evs (evm d) tx_M_wins (28, [some (vR 12 r_0), some (vI x_1), some (vI x_2), some (vI x_3), some (vI x_4), some (vI x_5), none, some (vI x_7)], [], h)
set_option maxRecDepth 100000 in
theorem e_M_wins_6 (d : Nat) (r_0 : Nat) (x_1 : Int32) (x_2 : Int32) (x_3 : Int32) (x_4 : Int32) (x_5 : Int32) (x_6 : Int32) (x_7 : Int32) (h : Hp) : L_M_wins_6 d r_0 x_1 x_2 x_3 x_4 x_5 x_6 x_7 h =
    bI (evm d 177 [vR 12 r_0] h) fun x2 h1 =>
    ifp (x_7 < x2)
      (bI (evm d 176 [vR 12 r_0] h1) fun x4 h3 =>
      ifp (x_1 < x4)
        (ifp (x_6 = 0)
          (L_M_wins_28 d r_0 x_1 x_2 x_3 x_4 x_5 x_7 h3)
          (L_M_wins_6 d r_0 x_1 x_2 x_3 x_4 x_5 (1 : Int32) (x_7 + (1 : Int32)) h3))
        (ifp (x_6 = 0)
          (some (some (vL (0 : Int64)), h3))
          (some (some (vL (1 : Int64)), h3))))
      (ifp (x_6 = 0)
        (some (some (vL (0 : Int64)), h1))
        (some (some (vL (1 : Int64)), h1))) := (evs_xpd _ tx_M_wins [6, 28] 62 _).trans rfl
set_option maxRecDepth 100000 in
theorem e_M_wins_28 (d : Nat) (r_0 : Nat) (x_1 : Int32) (x_2 : Int32) (x_3 : Int32) (x_4 : Int32) (x_5 : Int32) (x_7 : Int32) (h : Hp) : L_M_wins_28 d r_0 x_1 x_2 x_3 x_4 x_5 x_7 h =
    bI (evm d 189 [vR 12 r_0, vI x_1, vI x_2, vI x_3, vI x_4, vI x_5, vI x_7] h) fun x2 h1 =>
    ifp (x2 = 0)
      (L_M_wins_6 d r_0 x_1 x_2 x_3 x_4 x_5 (0 : Int32) (x_7 + (1 : Int32)) h1)
      (bI (evm d 178 [vR 12 r_0, vI x_7] h1) fun x4 h3 =>
      bI (evm d 176 [vR 12 r_0] h3) fun x6 h5 =>
      ifp ((x_1 + x4) = x6)
        (L_M_wins_6 d r_0 x_1 x_2 x_3 x_4 x_5 (1 : Int32) (x_7 + (1 : Int32)) h5)
        (bR (hR h5 r_0 23) fun r7 =>
        bI (evm d 190 [vR 12 r_0, vI x_1, vI x_2, vI x_3, vI x_4, vI x_5, vI x_7] h5) fun x9 h8 =>
        ifp (inb x9 (hN h8 r7) = true) (
        ifp ((lg_cmp (hL h8 r7 (ix x9)) (0 : Int64)) = 0)
          (L_M_wins_6 d r_0 x_1 x_2 x_3 x_4 x_5 (1 : Int32) (x_7 + (1 : Int32)) h8)
          (L_M_wins_6 d r_0 x_1 x_2 x_3 x_4 x_5 (0 : Int32) (x_7 + (1 : Int32)) h8)) none)) := (evs_xpd _ tx_M_wins [6, 28] 62 _).trans rfl
set_option maxRecDepth 100000 in
theorem e_M_wins (d : Nat) (r_0 : Nat) (x_1 : Int32) (x_2 : Int32) (x_3 : Int32) (x_4 : Int32) (x_5 : Int32) (h : Hp) : evm (d + 1) 196 [vR 12 r_0, vI x_1, vI x_2, vI x_3, vI x_4, vI x_5] h =
    L_M_wins_6 d r_0 x_1 x_2 x_3 x_4 x_5 (0 : Int32) (0 : Int32) h := (evs_xpd _ tx_M_wins [6, 28] 62 _).trans rfl
set_option maxRecDepth 100000 in
theorem e_M_nowAt (d : Nat) (r_0 : Nat) (h : Hp) : evm (d + 1) 197 [vR 12 r_0] h =
    bI (evm d 185 [vR 12 r_0, vI (hI h r_0 21)] h) fun x2 h1 =>
    bI (evm d 180 [vR 12 r_0] h1) fun x4 h3 =>
    bI (evm d 184 [vI (hI h r_0 19), vI (hI h r_0 20), vI x2, vI (hI h1 r_0 22), vI x4] h3) fun x6 h5 =>
    some (some (vI x6), h5) := (evs_xpd _ tx_M_nowAt [] 19 _).trans rfl
set_option maxRecDepth 100000 in
theorem e_M_mayNow (d : Nat) (r_0 : Nat) (x_1 : Int32) (h : Hp) : evm (d + 1) 198 [vR 12 r_0, vI x_1] h =
    bI (evm d 185 [vR 12 r_0, vI (hI h r_0 21)] h) fun x2 h1 =>
    bI (evm d 180 [vR 12 r_0] h1) fun x4 h3 =>
    bI (evm d 189 [vR 12 r_0, vI (hI h r_0 19), vI (hI h r_0 20), vI x2, vI (hI h1 r_0 22), vI x4, vI x_1] h3) fun x6 h5 =>
    bif isB x6 then some (some (vI x6), h5) else none := (evs_xpd _ tx_M_mayNow [] 21 _).trans rfl
set_option maxRecDepth 100000 in
theorem e_M_step (d : Nat) (r_0 : Nat) (x_1 : Int32) (x_2 : Int32) (h : Hp) : evm (d + 1) 199 [vR 12 r_0, vI x_1, vI x_2] h =
    bI (evm d 176 [vR 12 r_0] (sI h r_0 0 (0 : Int32))) fun x2 h1 =>
    bI (evm d 154 [vI x_1, vI (0 : Int32), vI x2] h1) fun x4 h3 =>
    ifp (x4 = 0)
      (some (some (vI (-1 : Int32)), h3))
      (bI (evm d 154 [vI x_2, vI (0 : Int32), vI (2 : Int32)] h3) fun x6 h5 =>
      ifp (x6 = 0)
        (some (some (vI (-1 : Int32)), h5))
        (bV (evm d 225 [vR 12 r_0] h5) fun h7 =>
        ifp (x_2 = 0)
          (bI (evm d 179 [vR 12 r_0, vI x_1] h7) fun x11 h10 =>
          some (some (vI x11), h10))
          (ifp (x_2 = (1 : Int32))
            (bR (hR h7 r_0 32) fun r9 =>
            ifp (inb x_1 (hN h7 r9) = true) (
            some (some (vI (hI h7 r9 (ix x_1))), h7)) none)
            (bR (hR h7 r_0 17) fun r8 =>
            ifp (inb ((41 : Int32) + x_1) (hN h7 r8) = true) (
            some (some (vI (hI h7 r8 (ix ((41 : Int32) + x_1)))), h7)) none)))) := (evs_xpd _ tx_M_step [] 44 _).trans rfl
set_option maxRecDepth 100000 in
theorem e_M_may (d : Nat) (r_0 : Nat) (x_1 : Int32) (h : Hp) : evm (d + 1) 200 [vR 12 r_0, vI x_1] h =
    bV (evm d 183 [vR 12 r_0] (sI (sI h r_0 0 (0 : Int32)) r_0 24 (0 : Int32))) fun h1 =>
    bI (evm d 181 [vR 12 r_0, vI x_1] h1) fun x3 h2 =>
    ifp (x3 < 0)
      (some (some (vI (0 : Int32)), h2))
      (bI (evm d 198 [vR 12 r_0, vI x3] h2) fun x5 h4 =>
      ifp (x5 = 0)
        (some (some (vI (0 : Int32)), h4))
        (some (some (vI (1 : Int32)), h4))) := (evs_xpd _ tx_M_may [] 27 _).trans rfl
set_option maxRecDepth 100000 in
theorem e_M_stride (d : Nat) (r_0 : Nat) (x_1 : Int32) (h : Hp) : evm (d + 1) 201 [vR 12 r_0, vI x_1] h =
    bI (evm d 200 [vR 12 r_0, vI x_1] h) fun x2 h1 =>
    ifp (x2 = 0)
      (some (some (vI (0 : Int32)), h1))
      (bR (hR h1 r_0 17) fun r3 =>
      bI (evm d 180 [vR 12 r_0] h1) fun x5 h4 =>
      ifp (inb ((1 : Int32) + x5) (hN h4 r3) = true) (
      bR (hR (sI h4 r3 (ix ((1 : Int32) + x5)) x_1) r_0 17) fun r6 =>
      ifp (inb (0 : Int32) (hN (sI h4 r3 (ix ((1 : Int32) + x5)) x_1) r6) = true) (
      ifp (inb (0 : Int32) (hN (sI h4 r3 (ix ((1 : Int32) + x5)) x_1) r6) = true) (
      some (some (vI (1 : Int32)), sI (sI h4 r3 (ix ((1 : Int32) + x5)) x_1) r6 (ix (0 : Int32)) ((hI (sI h4 r3 (ix ((1 : Int32) + x5)) x_1) r6 (ix (0 : Int32))) + (1 : Int32)))) none) none) none) := (evs_xpd _ tx_M_stride [] 29 _).trans rfl
set_option maxRecDepth 100000 in
theorem e_M_back (d : Nat) (r_0 : Nat) (x_1 : Int32) (h : Hp) : evm (d + 1) 202 [vR 12 r_0, vI x_1] h =
    bI (evm d 180 [vR 12 r_0] (sI h r_0 0 (0 : Int32))) fun x2 h1 =>
    ifp (x2 = 0)
      (some (some (vI (0 : Int32)), h1))
      (bR (hR h1 r_0 17) fun r3 =>
      ifp (x_1 = 0)
        (bI (evm d 180 [vR 12 r_0] h1) fun x5 h4 =>
        ifp (inb (0 : Int32) (hN h4 r3) = true) (
        some (some (vI (1 : Int32)), sI h4 r3 (ix (0 : Int32)) (x5 - (1 : Int32)))) none)
        (ifp (inb (0 : Int32) (hN h1 r3) = true) (
        some (some (vI (1 : Int32)), sI h1 r3 (ix (0 : Int32)) (0 : Int32))) none)) := (evs_xpd _ tx_M_back [] 27 _).trans rfl
set_option maxRecDepth 100000 in
theorem e_M_taken (d : Nat) (r_0 : Nat) (x_1 : Int32) (h : Hp) : evm (d + 1) 203 [vR 12 r_0, vI x_1] h =
    ifp (x_1 < 0)
      (some (some (vI (-1 : Int32)), sI h r_0 0 (0 : Int32)))
      (bI (evm d 180 [vR 12 r_0] (sI h r_0 0 (0 : Int32))) fun x2 h1 =>
      ifp (x_1 < x2)
        (bR (hR h1 r_0 17) fun r3 =>
        ifp (inb ((1 : Int32) + x_1) (hN h1 r3) = true) (
        some (some (vI (hI h1 r3 (ix ((1 : Int32) + x_1)))), h1)) none)
        (some (some (vI (-1 : Int32)), h1))) := (evs_xpd _ tx_M_taken [] 23 _).trans rfl
noncomputable def L_M_lawfulNow_49 (d : Nat) (r_0 : Nat) (x_1 : Int32) (h : Hp) : Option Rs := evs (evm d) tx_M_lawfulNow (49, [some (vR 12 r_0), some (vI x_1)], [], h)
set_option maxRecDepth 100000 in
theorem e_M_lawfulNow_49 (d : Nat) (r_0 : Nat) (x_1 : Int32) (h : Hp) : L_M_lawfulNow_49 d r_0 x_1 h =
    bR (hR h r_0 10) fun r1 =>
    ifp (inb (3 : Int32) (hN h r1) = true) (
    ifp (x_1 < (hI h r1 (ix (3 : Int32))))
      (some (some (vI (2 : Int32)), h))
      (some (some (vI (0 : Int32)), h))) none := (evs_xpd _ tx_M_lawfulNow [49] 44 _).trans rfl
set_option maxRecDepth 100000 in
theorem e_M_lawfulNow (d : Nat) (r_0 : Nat) (h : Hp) : evm (d + 1) 204 [vR 12 r_0] h =
    bV (evm d 183 [vR 12 r_0] h) fun h1 =>
    bI (evm d 176 [vR 12 r_0] h1) fun x3 h2 =>
    ifp ((hI h1 r_0 19) < x3)
      (some (some (vI (-1 : Int32)), h2))
      (bI (evm d 180 [vR 12 r_0] h2) fun x5 h4 =>
      bR (hR h4 r_0 10) fun r6 =>
      ifp (inb (2 : Int32) (hN h4 r6) = true) (
      ifp ((hI h4 r6 (ix (2 : Int32))) < 0)
        (L_M_lawfulNow_49 d r_0 x5 h4)
        (bR (hR h4 r_0 10) fun r7 =>
        ifp (inb (2 : Int32) (hN h4 r7) = true) (
        ifp ((2 : Int32) = 0) none (
        ifp ((hI h4 r7 (ix (2 : Int32))) = (irem (x5 + (1 : Int32)) (2 : Int32)))
          (L_M_lawfulNow_49 d r_0 x5 h4)
          (some (some (vI (1 : Int32)), h4)))) none)) none) := (evs_xpd _ tx_M_lawfulNow [49] 44 _).trans rfl
set_option maxRecDepth 100000 in
theorem e_M_lawful (d : Nat) (r_0 : Nat) (h : Hp) : evm (d + 1) 205 [vR 12 r_0] h =
    bI (evm d 204 [vR 12 r_0] (sI h r_0 0 (0 : Int32))) fun x2 h1 =>
    some (some (vI x2), h1) := (evs_xpd _ tx_M_lawful [] 11 _).trans rfl
set_option maxRecDepth 100000 in
theorem e_M_many (d : Nat) (r_0 : Nat) (h : Hp) : evm (d + 1) 206 [vR 12 r_0] h =
    bV (evm d 183 [vR 12 r_0] (sI (sI h r_0 0 (0 : Int32)) r_0 24 (0 : Int32))) fun h1 =>
    bV (evm d 194 [vR 12 r_0, vI (-1 : Int32), vI (0 : Int32)] h1) fun h2 =>
    bR (hR h2 r_0 23) fun r3 =>
    bI (evm d 197 [vR 12 r_0] h2) fun x5 h4 =>
    ifp (inb x5 (hN h4 r3) = true) (
    some (some (vL (hL h4 r3 (ix x5))), h4)) none := (evs_xpd _ tx_M_many [] 23 _).trans rfl
set_option maxRecDepth 100000 in
theorem e_M_manyOf (d : Nat) (r_0 : Nat) (x_1 : Int32) (h : Hp) : evm (d + 1) 207 [vR 12 r_0, vI x_1] h =
    bI (evm d 154 [vI x_1, vI (0 : Int32), vI (40 : Int32)] (sI h r_0 0 (0 : Int32))) fun x2 h1 =>
    ifp (x2 = 0)
      (some (some (vL (-1 : Int64)), h1))
      (bV (evm d 183 [vR 12 r_0] (sI h1 r_0 24 (0 : Int32))) fun h3 =>
      bV (evm d 194 [vR 12 r_0, vI x_1, vI (0 : Int32)] h3) fun h4 =>
      bR (hR h4 r_0 23) fun r5 =>
      bI (evm d 197 [vR 12 r_0] h4) fun x7 h6 =>
      ifp (inb x7 (hN h6 r5) = true) (
      some (some (vL (hL h6 r5 (ix x7))), h6)) none) := (evs_xpd _ tx_M_manyOf [] 30 _).trans rfl
noncomputable def L_M_rank0_37 (d : Nat) (r_0 : Nat) (y_1 : Int64) (x_3 : Int32) (x_4 : Int32) (h : Hp) : Option Rs := evs (evm d) tx_M_rank0 (37, [some (vR 12 r_0), some (vL y_1), none, some (vI x_3), some (vI x_4), none], [], h)
noncomputable def L_M_rank0_58 (d : Nat) (r_0 : Nat) (y_1 : Int64) (x_3 : Int32) (x_4 : Int32) (x_5 : Int32) (h : Hp) : Option Rs := evs (evm d) tx_M_rank0 (58, [some (vR 12 r_0), some (vL y_1), none, some (vI x_3), some (vI x_4), some (vI x_5)], [], h)
noncomputable def L_M_rank0_67 (d : Nat) (r_0 : Nat) (y_1 : Int64) (x_3 : Int32) (x_4 : Int32) (x_5 : Int32) (h : Hp) : Option Rs := evs (evm d) tx_M_rank0 (67, [some (vR 12 r_0), some (vL y_1), none, some (vI x_3), some (vI x_4), some (vI x_5)], [], h)
set_option maxRecDepth 100000 in
theorem e_M_rank0_37 (d : Nat) (r_0 : Nat) (y_1 : Int64) (x_3 : Int32) (x_4 : Int32) (h : Hp) : L_M_rank0_37 d r_0 y_1 x_3 x_4 h =
    ifp (x_4 < x_3)
      (bR (hR h r_0 17) fun r2 =>
      ifp (inb (0 : Int32) (hN h r2) = true) (
      bV (evm d 183 [vR 12 r_0] (sI h r2 (ix (0 : Int32)) x_4)) fun h3 =>
      L_M_rank0_58 d r_0 y_1 x_3 x_4 (0 : Int32) h3) none)
      (bR (hR h r_0 17) fun r1 =>
      ifp (inb (0 : Int32) (hN h r1) = true) (
      some (some (vL y_1), sI h r1 (ix (0 : Int32)) x_3)) none) := (evs_xpd _ tx_M_rank0 [37, 58, 67] 90 _).trans rfl
set_option maxRecDepth 100000 in
theorem e_M_rank0_58 (d : Nat) (r_0 : Nat) (y_1 : Int64) (x_3 : Int32) (x_4 : Int32) (x_5 : Int32) (h : Hp) : L_M_rank0_58 d r_0 y_1 x_3 x_4 x_5 h =
    bI (evm d 177 [vR 12 r_0] h) fun x2 h1 =>
    ifp (x_5 < x2)
      (L_M_rank0_67 d r_0 y_1 x_3 x_4 x_5 h1)
      (L_M_rank0_37 d r_0 y_1 x_3 (x_4 + (1 : Int32)) h1) := (evs_xpd _ tx_M_rank0 [37, 58, 67] 90 _).trans rfl
set_option maxRecDepth 100000 in
theorem e_M_rank0_67 (d : Nat) (r_0 : Nat) (y_1 : Int64) (x_3 : Int32) (x_4 : Int32) (x_5 : Int32) (h : Hp) : L_M_rank0_67 d r_0 y_1 x_3 x_4 x_5 h =
    bI (evm d 178 [vR 12 r_0, vI x_5] h) fun x2 h1 =>
    bR (hR h1 r_0 17) fun r3 =>
    ifp (inb ((1 : Int32) + x_4) (hN h1 r3) = true) (
    ifp (x2 < (hI h1 r3 (ix ((1 : Int32) + x_4))))
      (bI (evm d 198 [vR 12 r_0, vI x_5] h1) fun x5 h4 =>
      ifp (x5 = 0)
        (L_M_rank0_58 d r_0 (y_1 + (0 : Int64)) x_3 x_4 (x_5 + (1 : Int32)) h4)
        (bR (hR h4 r_0 23) fun r6 =>
        bI (evm d 185 [vR 12 r_0, vI (hI h4 r_0 21)] h4) fun x8 h7 =>
        bI (evm d 190 [vR 12 r_0, vI (hI h4 r_0 19), vI (hI h4 r_0 20), vI x8, vI (hI h7 r_0 22), vI x_4, vI x_5] h7) fun x10 h9 =>
        ifp (inb x10 (hN h9 r6) = true) (
        L_M_rank0_58 d r_0 (y_1 + (hL h9 r6 (ix x10))) x_3 x_4 (x_5 + (1 : Int32)) h9) none))
      (L_M_rank0_58 d r_0 (y_1 + (0 : Int64)) x_3 x_4 (x_5 + (1 : Int32)) h1)) none := (evs_xpd _ tx_M_rank0 [37, 58, 67] 90 _).trans rfl
set_option maxRecDepth 100000 in
theorem e_M_rank0 (d : Nat) (r_0 : Nat) (h : Hp) : evm (d + 1) 208 [vR 12 r_0] h =
    bI (evm d 204 [vR 12 r_0] (sI (sI h r_0 0 (0 : Int32)) r_0 24 (0 : Int32))) fun x2 h1 =>
    ifp (x2 = 0)
      (bV (evm d 194 [vR 12 r_0, vI (-1 : Int32), vI (0 : Int32)] h1) fun h3 =>
      bI (evm d 180 [vR 12 r_0] h3) fun x5 h4 =>
      L_M_rank0_37 d r_0 (0 : Int64) x5 (0 : Int32) h4)
      (some (some (vL (-1 : Int64)), h1)) := (evs_xpd _ tx_M_rank0 [37, 58, 67] 90 _).trans rfl
noncomputable def L_M_strideAt_40 (d : Nat) (r_0 : Nat) (x_3 : Int32) (y_4 : Int64) (x_6 : Int32) (x_7 : Int32) (x_8 : Int32) (x_9 : Int32) (x_10 : Int32) (x_11 : Int32) (h : Hp) : Option Rs := evs (evm d) tx_M_strideAt (40, [some (vR 12 r_0), none, none, some (vI x_3), some (vL y_4), none, some (vI x_6), some (vI x_7), some (vI x_8), some (vI x_9), some (vI x_10), some (vI x_11), none, none], [], h)
noncomputable def L_M_strideAt_60 (d : Nat) (r_0 : Nat) (x_3 : Int32) (y_4 : Int64) (x_6 : Int32) (x_7 : Int32) (x_8 : Int32) (x_9 : Int32) (x_10 : Int32) (x_11 : Int32) (x_12 : Int32) (h : Hp) : Option Rs := evs (evm d) tx_M_strideAt (60, [some (vR 12 r_0), none, none, some (vI x_3), some (vL y_4), none, some (vI x_6), some (vI x_7), some (vI x_8), some (vI x_9), some (vI x_10), some (vI x_11), some (vI x_12), none], [], h)
noncomputable def L_M_strideAt_106 (d : Nat) (r_0 : Nat) (x_3 : Int32) (y_4 : Int64) (x_6 : Int32) (x_7 : Int32) (x_8 : Int32) (x_9 : Int32) (x_10 : Int32) (x_11 : Int32) (x_12 : Int32) (h : Hp) : Option Rs := evs (evm d) tx_M_strideAt (106, [some (vR 12 r_0), none, none, some (vI x_3), some (vL y_4), none, some (vI x_6), some (vI x_7), some (vI x_8), some (vI x_9), some (vI x_10), some (vI x_11), some (vI x_12), none], [], h)
noncomputable def L_M_strideAt_208 (d : Nat) (r_0 : Nat) (x_3 : Int32) (y_4 : Int64) (x_6 : Int32) (x_7 : Int32) (x_9 : Int32) (x_10 : Int32) (x_11 : Int32) (x_13 : Int32) (xs0 : Int32) (xs1 : Int32) (h : Hp) : Option Rs := evs (evm d) tx_M_strideAt (208, [some (vR 12 r_0), none, none, some (vI x_3), some (vL y_4), none, some (vI x_6), some (vI x_7), none, some (vI x_9), some (vI x_10), some (vI x_11), none, some (vI x_13)], [vI xs0, vI xs1], h)
set_option maxRecDepth 100000 in
theorem e_M_strideAt_40 (d : Nat) (r_0 : Nat) (x_3 : Int32) (y_4 : Int64) (x_6 : Int32) (x_7 : Int32) (x_8 : Int32) (x_9 : Int32) (x_10 : Int32) (x_11 : Int32) (h : Hp) : L_M_strideAt_40 d r_0 x_3 y_4 x_6 x_7 x_8 x_9 x_10 x_11 h =
    ifp (x_3 < x_11)
      (bI (evm d 178 [vR 12 r_0, vI (x_7 - (1 : Int32))] h) fun x2 h1 =>
      some (some (vI x2), h1))
      (bI (evm d 176 [vR 12 r_0] h) fun x4 h3 =>
      ifp (x_6 = x4)
        (some (some (vI (-1 : Int32)), h3))
        (L_M_strideAt_60 d r_0 x_3 y_4 x_6 x_7 x_8 x_9 x_10 x_11 (0 : Int32) h3)) := (evs_xpd _ tx_M_strideAt [40, 60, 106, 208] 134 _).trans rfl
set_option maxRecDepth 100000 in
theorem e_M_strideAt_60 (d : Nat) (r_0 : Nat) (x_3 : Int32) (y_4 : Int64) (x_6 : Int32) (x_7 : Int32) (x_8 : Int32) (x_9 : Int32) (x_10 : Int32) (x_11 : Int32) (x_12 : Int32) (h : Hp) : L_M_strideAt_60 d r_0 x_3 y_4 x_6 x_7 x_8 x_9 x_10 x_11 x_12 h =
    bI (evm d 189 [vR 12 r_0, vI x_6, vI x_7, vI x_8, vI x_9, vI x_10, vI x_12] h) fun x2 h1 =>
    ifp (x2 = 0)
      (L_M_strideAt_106 d r_0 x_3 y_4 x_6 x_7 x_8 x_9 x_10 x_11 x_12 h1)
      (bR (hR h1 r_0 23) fun r3 =>
      bI (evm d 190 [vR 12 r_0, vI x_6, vI x_7, vI x_8, vI x_9, vI x_10, vI x_12] h1) fun x5 h4 =>
      ifp (inb x5 (hN h4 r3) = true) (
      ifp (0 < (lg_cmp (hL h4 r3 (ix x5)) y_4))
        (bI (evm d 178 [vR 12 r_0, vI x_12] h4) fun x7 h6 =>
        bI (evm d 179 [vR 12 r_0, vI (x_6 + x7)] h6) fun x9 h8 =>
        ifp (x9 = (2 : Int32))
          (bR (hR h8 r_0 10) fun r10 =>
          ifp (inb (1 : Int32) (hN h8 r10) = true) (
          ifp ((hI h8 r10 (ix (1 : Int32))) < 0)
            (L_M_strideAt_208 d r_0 x_3 y_4 (x_6 + x7) (x_12 + (1 : Int32)) x_9 x_10 x_11 x7 (0 : Int32) x_8 h8)
            (L_M_strideAt_208 d r_0 x_3 y_4 (x_6 + x7) (x_12 + (1 : Int32)) x_9 x_10 x_11 x7 (1 : Int32) x_8 h8)) none)
          (L_M_strideAt_208 d r_0 x_3 y_4 (x_6 + x7) (x_12 + (1 : Int32)) x_9 x_10 x_11 x7 (0 : Int32) x_8 h8))
        (L_M_strideAt_106 d r_0 x_3 y_4 x_6 x_7 x_8 x_9 x_10 x_11 x_12 h4)) none) := (evs_xpd _ tx_M_strideAt [40, 60, 106, 208] 134 _).trans rfl
set_option maxRecDepth 100000 in
theorem e_M_strideAt_106 (d : Nat) (r_0 : Nat) (x_3 : Int32) (y_4 : Int64) (x_6 : Int32) (x_7 : Int32) (x_8 : Int32) (x_9 : Int32) (x_10 : Int32) (x_11 : Int32) (x_12 : Int32) (h : Hp) : L_M_strideAt_106 d r_0 x_3 y_4 x_6 x_7 x_8 x_9 x_10 x_11 x_12 h =
    bI (evm d 189 [vR 12 r_0, vI x_6, vI x_7, vI x_8, vI x_9, vI x_10, vI x_12] h) fun x2 h1 =>
    ifp (x2 = 0)
      (L_M_strideAt_60 d r_0 x_3 (y_4 - (0 : Int64)) x_6 x_7 x_8 x_9 x_10 x_11 (x_12 + (1 : Int32)) h1)
      (bR (hR h1 r_0 23) fun r3 =>
      bI (evm d 190 [vR 12 r_0, vI x_6, vI x_7, vI x_8, vI x_9, vI x_10, vI x_12] h1) fun x5 h4 =>
      ifp (inb x5 (hN h4 r3) = true) (
      L_M_strideAt_60 d r_0 x_3 (y_4 - (hL h4 r3 (ix x5))) x_6 x_7 x_8 x_9 x_10 x_11 (x_12 + (1 : Int32)) h4) none) := (evs_xpd _ tx_M_strideAt [40, 60, 106, 208] 134 _).trans rfl
set_option maxRecDepth 100000 in
theorem e_M_strideAt_208 (d : Nat) (r_0 : Nat) (x_3 : Int32) (y_4 : Int64) (x_6 : Int32) (x_7 : Int32) (x_9 : Int32) (x_10 : Int32) (x_11 : Int32) (x_13 : Int32) (xs0 : Int32) (xs1 : Int32) (h : Hp) : L_M_strideAt_208 d r_0 x_3 y_4 x_6 x_7 x_9 x_10 x_11 x_13 xs0 xs1 h =
    bI (evm d 182 [vR 12 r_0, vI x_13] h) fun x2 h1 =>
    ifp (x2 = 0)
      (L_M_strideAt_40 d r_0 x_3 y_4 x_6 x_7 (xs1 + xs0) (x_9 + (0 : Int32)) (x_10 + (1 : Int32)) (x_11 + (1 : Int32)) h1)
      (L_M_strideAt_40 d r_0 x_3 y_4 x_6 x_7 (xs1 + xs0) (x_9 + (1 : Int32)) (x_10 + (1 : Int32)) (x_11 + (1 : Int32)) h1) := (evs_xpd _ tx_M_strideAt [40, 60, 106, 208] 134 _).trans rfl
set_option maxRecDepth 100000 in
theorem e_M_strideAt (d : Nat) (r_0 : Nat) (y_1 : Int64) (x_3 : Int32) (h : Hp) : evm (d + 1) 209 [vR 12 r_0, vL y_1, vI x_3] h =
    bI (evm d 185 [vR 12 r_0, vI (hI h r_0 21)] h) fun x2 h1 =>
    bI (evm d 180 [vR 12 r_0] h1) fun x4 h3 =>
    L_M_strideAt_40 d r_0 x_3 y_1 (hI h r_0 19) (hI h r_0 20) x2 (hI h1 r_0 22) x4 (0 : Int32) h3 := (evs_xpd _ tx_M_strideAt [40, 60, 106, 208] 134 _).trans rfl
set_option maxRecDepth 100000 in
theorem e_M_nth (d : Nat) (r_0 : Nat) (y_1 : Int64) (x_3 : Int32) (h : Hp) : evm (d + 1) 210 [vR 12 r_0, vL y_1, vI x_3] h =
    bV (evm d 194 [vR 12 r_0, vI (-1 : Int32), vI (0 : Int32)] (sI (sI h r_0 0 (0 : Int32)) r_0 24 (0 : Int32))) fun h1 =>
    ifp ((lg_cmp y_1 (0 : Int64)) < 0)
      (some (some (vI (-1 : Int32)), h1))
      (bR (hR h1 r_0 23) fun r2 =>
      bI (evm d 184 [vI (0 : Int32), vI (0 : Int32), vI (0 : Int32), vI (0 : Int32), vI (0 : Int32)] h1) fun x4 h3 =>
      ifp (inb x4 (hN h3 r2) = true) (
      ifp ((lg_cmp y_1 (hL h3 r2 (ix x4))) < 0)
        (ifp (x_3 < 0)
          (some (some (vI (-1 : Int32)), h3))
          (bI (evm d 180 [vR 12 r_0] h3) fun x6 h5 =>
          bR (hR h5 r_0 17) fun r7 =>
          ifp (inb (0 : Int32) (hN h5 r7) = true) (
          bV (evm d 183 [vR 12 r_0] (sI h5 r7 (ix (0 : Int32)) (0 : Int32))) fun h8 =>
          bI (evm d 209 [vR 12 r_0, vL y_1, vI x_3] h8) fun x10 h9 =>
          bR (hR h9 r_0 17) fun r11 =>
          ifp (inb (0 : Int32) (hN h9 r11) = true) (
          some (some (vI x10), sI h9 r11 (ix (0 : Int32)) x6)) none) none))
        (some (some (vI (-1 : Int32)), h3))) none) := (evs_xpd _ tx_M_nth [] 57 _).trans rfl
noncomputable def L_M_multiplies_3 (d : Nat) (r_0 : Nat) (r_1 : Nat) (r_2 : Nat) (x_3 : Int32) (x_4 : Int32) (h : Hp) : Option Rs := evs (evm d) tx_M_multiplies (3, [some (vR 12 r_0), some (vR 21 r_1), some (vR 21 r_2), some (vI x_3), some (vI x_4), none, none, none, none], [], h)
noncomputable def L_M_multiplies_13 (d : Nat) (r_0 : Nat) (r_1 : Nat) (r_2 : Nat) (x_3 : Int32) (x_4 : Int32) (x_5 : Int32) (h : Hp) : Option Rs := evs (evm d) tx_M_multiplies (13, [some (vR 12 r_0), some (vR 21 r_1), some (vR 21 r_2), some (vI x_3), some (vI x_4), some (vI x_5), none, none, none], [], h)
noncomputable def L_M_multiplies_26 (d : Nat) (r_0 : Nat) (r_1 : Nat) (r_2 : Nat) (x_3 : Int32) (x_4 : Int32) (x_5 : Int32) (y_6 : Int64) (x_8 : Int32) (h : Hp) : Option Rs := evs (evm d) tx_M_multiplies (26, [some (vR 12 r_0), some (vR 21 r_1), some (vR 21 r_2), some (vI x_3), some (vI x_4), some (vI x_5), some (vL y_6), none, some (vI x_8)], [], h)
noncomputable def L_M_multiplies_98 (d : Nat) (r_0 : Nat) (r_1 : Nat) (x_4 : Int32) (h : Hp) : Option Rs := evs (evm d) tx_M_multiplies (98, [some (vR 12 r_0), some (vR 21 r_1), none, none, some (vI x_4), none, none, none, none], [], h)
set_option maxRecDepth 100000 in
theorem e_M_multiplies_3 (d : Nat) (r_0 : Nat) (r_1 : Nat) (r_2 : Nat) (x_3 : Int32) (x_4 : Int32) (h : Hp) : L_M_multiplies_3 d r_0 r_1 r_2 x_3 x_4 h =
    ifp (x_4 < (12 : Int32))
      (L_M_multiplies_13 d r_0 r_1 r_2 x_3 x_4 (0 : Int32) h)
      (L_M_multiplies_98 d r_0 r_1 (0 : Int32) h) := (evs_xpd _ tx_M_multiplies [3, 13, 26, 98] 73 _).trans rfl
set_option maxRecDepth 100000 in
theorem e_M_multiplies_13 (d : Nat) (r_0 : Nat) (r_1 : Nat) (r_2 : Nat) (x_3 : Int32) (x_4 : Int32) (x_5 : Int32) (h : Hp) : L_M_multiplies_13 d r_0 r_1 r_2 x_3 x_4 x_5 h =
    ifp (x_5 < (12 : Int32))
      (L_M_multiplies_26 d r_0 r_1 r_2 x_3 x_4 x_5 (0 : Int64) (0 : Int32) h)
      (L_M_multiplies_3 d r_0 r_1 r_2 x_3 (x_4 + (1 : Int32)) h) := (evs_xpd _ tx_M_multiplies [3, 13, 26, 98] 73 _).trans rfl
set_option maxRecDepth 100000 in
theorem e_M_multiplies_26 (d : Nat) (r_0 : Nat) (r_1 : Nat) (r_2 : Nat) (x_3 : Int32) (x_4 : Int32) (x_5 : Int32) (y_6 : Int64) (x_8 : Int32) (h : Hp) : L_M_multiplies_26 d r_0 r_1 r_2 x_3 x_4 x_5 y_6 x_8 h =
    ifp (x_8 < (12 : Int32))
      (ifp (inb (((12 : Int32) * x_4) + x_8) (hN h r_1) = true) (
      ifp (inb (((12 : Int32) * x_8) + x_5) (hN h r_2) = true) (
      L_M_multiplies_26 d r_0 r_1 r_2 x_3 x_4 x_5 (y_6 + ((hL h r_1 (ix (((12 : Int32) * x_4) + x_8))) * (hL h r_2 (ix (((12 : Int32) * x_8) + x_5))))) (x_8 + (1 : Int32)) h) none) none)
      (bR (hR h r_0 27) fun r1 =>
      ifp (x_3.toInt64 = 0) none (
      ifp (inb (((12 : Int32) * x_4) + x_5) (hN h r1) = true) (
      L_M_multiplies_13 d r_0 r_1 r_2 x_3 x_4 (x_5 + (1 : Int32)) (sL h r1 (ix (((12 : Int32) * x_4) + x_5)) (lrem y_6 x_3.toInt64))) none)) := (evs_xpd _ tx_M_multiplies [3, 13, 26, 98] 73 _).trans rfl
set_option maxRecDepth 100000 in
theorem e_M_multiplies_98 (d : Nat) (r_0 : Nat) (r_1 : Nat) (x_4 : Int32) (h : Hp) : L_M_multiplies_98 d r_0 r_1 x_4 h =
    ifp (x_4 < (144 : Int32))
      (bR (hR h r_0 27) fun r1 =>
      ifp (inb x_4 (hN h r1) = true) (
      ifp (inb x_4 (hN h r_1) = true) (
      L_M_multiplies_98 d r_0 r_1 (x_4 + (1 : Int32)) (sL h r_1 (ix x_4) (hL h r1 (ix x_4)))) none) none)
      (some (none, h)) := (evs_xpd _ tx_M_multiplies [3, 13, 26, 98] 73 _).trans rfl
set_option maxRecDepth 100000 in
theorem e_M_multiplies (d : Nat) (r_0 : Nat) (r_1 : Nat) (r_2 : Nat) (x_3 : Int32) (h : Hp) : evm (d + 1) 211 [vR 12 r_0, vR 21 r_1, vR 21 r_2, vI x_3] h =
    L_M_multiplies_3 d r_0 r_1 r_2 x_3 (0 : Int32) h := (evs_xpd _ tx_M_multiplies [3, 13, 26, 98] 73 _).trans rfl
noncomputable def L_M_plain_28 (d : Nat) (r_0 : Nat) (x_1 : Int32) (x_2 : Int32) (xs0 : Int32) (rs1 : Nat) (h : Hp) : Option Rs := evs (evm d) tx_M_plain (28, [some (vR 12 r_0), some (vI x_1), some (vI x_2), none], [vI xs0, vR 12 rs1], h)
noncomputable def L_M_plain_42 (d : Nat) (r_0 : Nat) (x_1 : Int32) (x_2 : Int32) (x_3 : Int32) (h : Hp) : Option Rs := evs (evm d) tx_M_plain (42, [some (vR 12 r_0), some (vI x_1), some (vI x_2), some (vI x_3)], [], h)
noncomputable def L_M_plain_69 (d : Nat) (r_0 : Nat) (x_1 : Int32) (x_2 : Int32) (x_3 : Int32) (ys0 : Int64) (xs1 : Int32) (rs2 : Nat) (h : Hp) : Option Rs := evs (evm d) tx_M_plain (69, [some (vR 12 r_0), some (vI x_1), some (vI x_2), some (vI x_3)], [vL ys0, vI xs1, vR 21 rs2], h)
noncomputable def L_M_plain_111 (d : Nat) (r_0 : Nat) (x_1 : Int32) (x_2 : Int32) (x_3 : Int32) (h : Hp) : Option Rs := evs (evm d) tx_M_plain (111, [some (vR 12 r_0), some (vI x_1), some (vI x_2), some (vI x_3)], [], h)
noncomputable def L_M_plain_143 (d : Nat) (r_0 : Nat) (x_2 : Int32) (x_3 : Int32) (h : Hp) : Option Rs := evs (evm d) tx_M_plain (143, [some (vR 12 r_0), none, some (vI x_2), some (vI x_3)], [], h)
noncomputable def L_M_plain_167 (d : Nat) (r_0 : Nat) (x_2 : Int32) (x_3 : Int32) (h : Hp) : Option Rs := evs (evm d) tx_M_plain (167, [some (vR 12 r_0), none, some (vI x_2), some (vI x_3)], [], h)
set_option maxRecDepth 100000 in
theorem e_M_plain_28 (d : Nat) (r_0 : Nat) (x_1 : Int32) (x_2 : Int32) (xs0 : Int32) (rs1 : Nat) (h : Hp) : L_M_plain_28 d r_0 x_1 x_2 xs0 rs1 h =
    ifp (0 < (hI (sI h rs1 0 xs0) r_0 0))
      (some (some (vI (0 : Int32)), sI h rs1 0 xs0))
      (L_M_plain_42 d r_0 x_1 x_2 (0 : Int32) (sI h rs1 0 xs0)) := (evs_xpd _ tx_M_plain [28, 42, 69, 111, 143, 167] 120 _).trans rfl
set_option maxRecDepth 100000 in
theorem e_M_plain_42 (d : Nat) (r_0 : Nat) (x_1 : Int32) (x_2 : Int32) (x_3 : Int32) (h : Hp) : L_M_plain_42 d r_0 x_1 x_2 x_3 h =
    ifp (x_3 < (144 : Int32))
      (bR (hR h r_0 26) fun r1 =>
      ifp ((13 : Int32) = 0) none (
      ifp ((irem x_3 (13 : Int32)) = 0)
        (ifp (x_2 = 0) none (
        L_M_plain_69 d r_0 x_1 x_2 x_3 ((irem (1 : Int32) x_2).toInt64) x_3 r1 h))
        (L_M_plain_69 d r_0 x_1 x_2 x_3 (0 : Int64) x_3 r1 h)))
      (L_M_plain_111 d r_0 x_1 x_2 (0 : Int32) h) := (evs_xpd _ tx_M_plain [28, 42, 69, 111, 143, 167] 120 _).trans rfl
set_option maxRecDepth 100000 in
theorem e_M_plain_69 (d : Nat) (r_0 : Nat) (x_1 : Int32) (x_2 : Int32) (x_3 : Int32) (ys0 : Int64) (xs1 : Int32) (rs2 : Nat) (h : Hp) : L_M_plain_69 d r_0 x_1 x_2 x_3 ys0 xs1 rs2 h =
    ifp (inb xs1 (hN h rs2) = true) (
    bR (hR (sL h rs2 (ix xs1) ys0) r_0 25) fun r1 =>
    ifp (x_3 < (12 : Int32))
      (ifp (inb x_3 (hN (sL h rs2 (ix xs1) ys0) r1) = true) (
      L_M_plain_42 d r_0 x_1 x_2 (x_3 + (1 : Int32)) (sL (sL h rs2 (ix xs1) ys0) r1 (ix x_3) (0 : Int64))) none)
      (ifp ((12 : Int32) = 0) none (
      ifp ((12 : Int32) = 0) none (
      ifp ((irem x_3 (12 : Int32)) = ((x_3 / (12 : Int32)) - (1 : Int32)))
        (ifp (x_2 = 0) none (
        ifp (inb x_3 (hN (sL h rs2 (ix xs1) ys0) r1) = true) (
        L_M_plain_42 d r_0 x_1 x_2 (x_3 + (1 : Int32)) (sL (sL h rs2 (ix xs1) ys0) r1 (ix x_3) ((irem (1 : Int32) x_2).toInt64))) none))
        (ifp (inb x_3 (hN (sL h rs2 (ix xs1) ys0) r1) = true) (
        L_M_plain_42 d r_0 x_1 x_2 (x_3 + (1 : Int32)) (sL (sL h rs2 (ix xs1) ys0) r1 (ix x_3) (0 : Int64))) none))))) none := (evs_xpd _ tx_M_plain [28, 42, 69, 111, 143, 167] 120 _).trans rfl
set_option maxRecDepth 100000 in
theorem e_M_plain_111 (d : Nat) (r_0 : Nat) (x_1 : Int32) (x_2 : Int32) (x_3 : Int32) (h : Hp) : L_M_plain_111 d r_0 x_1 x_2 x_3 h =
    bI (evm d 177 [vR 12 r_0] h) fun x2 h1 =>
    ifp (x_3 < x2)
      (bR (hR h1 r_0 25) fun r3 =>
      bI (evm d 178 [vR 12 r_0, vI x_3] h1) fun x5 h4 =>
      ifp (x_2 = 0) none (
      ifp (inb (x5 - (1 : Int32)) (hN h4 r3) = true) (
      L_M_plain_111 d r_0 x_1 x_2 (x_3 + (1 : Int32)) (sL h4 r3 (ix (x5 - (1 : Int32))) ((irem (1 : Int32) x_2).toInt64))) none))
      (L_M_plain_143 d r_0 x_2 x_1 h1) := (evs_xpd _ tx_M_plain [28, 42, 69, 111, 143, 167] 120 _).trans rfl
set_option maxRecDepth 100000 in
theorem e_M_plain_143 (d : Nat) (r_0 : Nat) (x_2 : Int32) (x_3 : Int32) (h : Hp) : L_M_plain_143 d r_0 x_2 x_3 h =
    ifp (0 < x_3)
      (ifp ((2 : Int32) = 0) none (
      ifp ((irem x_3 (2 : Int32)) = (1 : Int32))
        (bR (hR h r_0 26) fun r2 =>
        bR (hR h r_0 25) fun r3 =>
        bV (evm d 211 [vR 12 r_0, vR 21 r2, vR 21 r3, vI x_2] h) fun h4 =>
        L_M_plain_167 d r_0 x_2 x_3 h4)
        (L_M_plain_167 d r_0 x_2 x_3 h)))
      (bR (hR h r_0 26) fun r1 =>
      ifp (inb (0 : Int32) (hN h r1) = true) (
      some (some (vI ((hL h r1 (ix (0 : Int32))).toInt32)), h)) none) := (evs_xpd _ tx_M_plain [28, 42, 69, 111, 143, 167] 120 _).trans rfl
set_option maxRecDepth 100000 in
theorem e_M_plain_167 (d : Nat) (r_0 : Nat) (x_2 : Int32) (x_3 : Int32) (h : Hp) : L_M_plain_167 d r_0 x_2 x_3 h =
    ifp ((2 : Int32) = 0) none (
    ifp (0 < (x_3 / (2 : Int32)))
      (bV (evm d 213 [vR 12 r_0, vI x_2] h) fun h1 =>
      L_M_plain_143 d r_0 x_2 (x_3 / (2 : Int32)) h1)
      (L_M_plain_143 d r_0 x_2 (x_3 / (2 : Int32)) h)) := (evs_xpd _ tx_M_plain [28, 42, 69, 111, 143, 167] 120 _).trans rfl
set_option maxRecDepth 100000 in
theorem e_M_plain (d : Nat) (r_0 : Nat) (x_1 : Int32) (x_2 : Int32) (h : Hp) : evm (d + 1) 212 [vR 12 r_0, vI x_1, vI x_2] h =
    bI (evm d 154 [vI x_1, vI (0 : Int32), vI (999999999 : Int32)] h) fun x2 h1 =>
    ifp (x2 = 0)
      (L_M_plain_28 d r_0 x_1 x_2 (1 : Int32) r_0 h1)
      (bI (evm d 154 [vI x_2, vI (1 : Int32), vI (9999 : Int32)] h1) fun x4 h3 =>
      ifp (x4 = 0)
        (L_M_plain_28 d r_0 x_1 x_2 (1 : Int32) r_0 h3)
        (L_M_plain_28 d r_0 x_1 x_2 (0 : Int32) r_0 h3)) := (evs_xpd _ tx_M_plain [28, 42, 69, 111, 143, 167] 120 _).trans rfl
noncomputable def L_M_squares_2 (d : Nat) (r_0 : Nat) (x_1 : Int32) (x_2 : Int32) (h : Hp) : Option Rs := evs (evm d) tx_M_squares (2, [some (vR 12 r_0), some (vI x_1), some (vI x_2)], [], h)
set_option maxRecDepth 100000 in
theorem e_M_squares_2 (d : Nat) (r_0 : Nat) (x_1 : Int32) (x_2 : Int32) (h : Hp) : L_M_squares_2 d r_0 x_1 x_2 h =
    ifp (x_2 < (144 : Int32))
      (bR (hR h r_0 28) fun r4 =>
      bR (hR h r_0 25) fun r5 =>
      ifp (inb x_2 (hN h r5) = true) (
      ifp (inb x_2 (hN h r4) = true) (
      L_M_squares_2 d r_0 x_1 (x_2 + (1 : Int32)) (sL h r4 (ix x_2) (hL h r5 (ix x_2)))) none) none)
      (bR (hR h r_0 25) fun r1 =>
      bR (hR h r_0 28) fun r2 =>
      bV (evm d 211 [vR 12 r_0, vR 21 r1, vR 21 r2, vI x_1] h) fun h3 =>
      some (none, h3)) := (evs_xpd _ tx_M_squares [2] 28 _).trans rfl
set_option maxRecDepth 100000 in
theorem e_M_squares (d : Nat) (r_0 : Nat) (x_1 : Int32) (h : Hp) : evm (d + 1) 213 [vR 12 r_0, vI x_1] h =
    L_M_squares_2 d r_0 x_1 (0 : Int32) h := (evs_xpd _ tx_M_squares [2] 28 _).trans rfl
noncomputable def L_M_weightAt_63 (d : Nat) (r_0 : Nat) (x_1 : Int32) (x_5 : Int32) (xs0 : Int32) (xs1 : Int32) (rs2 : Nat) (h : Hp) : Option Rs := evs (evm d) tx_M_weightAt (63, [some (vR 12 r_0), some (vI x_1), none, none, none, some (vI x_5), none, none], [vI xs0, vI xs1, vR 20 rs2], h)
noncomputable def L_M_weightAt_92 (d : Nat) (x_7 : Int32) (h : Hp) : Option Rs := evs (evm d) tx_M_weightAt (92, [none, none, none, none, none, none, none, some (vI x_7)], [], h)
set_option maxRecDepth 100000 in
theorem e_M_weightAt_63 (d : Nat) (r_0 : Nat) (x_1 : Int32) (x_5 : Int32) (xs0 : Int32) (xs1 : Int32) (rs2 : Nat) (h : Hp) : L_M_weightAt_63 d r_0 x_1 x_5 xs0 xs1 rs2 h =
    ifp (inb xs1 (hN h rs2) = true) (
    bR (hR (sI h rs2 (ix xs1) xs0) r_0 15) fun r1 =>
    ifp (inb (2 : Int32) (hN (sI h rs2 (ix xs1) xs0) r1) = true) (
    bR (hR (sI (sI h rs2 (ix xs1) xs0) r1 (ix (2 : Int32)) x_1) r_0 15) fun r2 =>
    ifp (inb (3 : Int32) (hN (sI (sI h rs2 (ix xs1) xs0) r1 (ix (2 : Int32)) x_1) r2) = true) (
    bR (hR (sI (sI (sI h rs2 (ix xs1) xs0) r1 (ix (2 : Int32)) x_1) r2 (ix (3 : Int32)) x_5) r_0 10) fun r3 =>
    ifp (inb (7 : Int32) (hN (sI (sI (sI h rs2 (ix xs1) xs0) r1 (ix (2 : Int32)) x_1) r2 (ix (3 : Int32)) x_5) r3) = true) (
    bI (evm d 174 [vR 12 r_0, vI (hI (sI (sI (sI h rs2 (ix xs1) xs0) r1 (ix (2 : Int32)) x_1) r2 (ix (3 : Int32)) x_5) r3 (ix (7 : Int32)))] (sI (sI (sI h rs2 (ix xs1) xs0) r1 (ix (2 : Int32)) x_1) r2 (ix (3 : Int32)) x_5)) fun x5 h4 =>
    L_M_weightAt_92 d x5 h4) none) none) none) none := (evs_xpd _ tx_M_weightAt [63, 92] 71 _).trans rfl
set_option maxRecDepth 100000 in
theorem e_M_weightAt_92 (d : Nat) (x_7 : Int32) (h : Hp) : L_M_weightAt_92 d x_7 h =
    ifp (x_7 < 0)
      (some (some (vI (0 : Int32)), h))
      (ifp ((9 : Int32) < x_7)
        (some (some (vI (9 : Int32)), h))
        (some (some (vI x_7), h))) := (evs_xpd _ tx_M_weightAt [63, 92] 71 _).trans rfl
set_option maxRecDepth 100000 in
theorem e_M_weightAt (d : Nat) (r_0 : Nat) (x_1 : Int32) (x_2 : Int32) (x_3 : Int32) (x_4 : Int32) (x_5 : Int32) (x_6 : Int32) (h : Hp) : evm (d + 1) 214 [vR 12 r_0, vI x_1, vI x_2, vI x_3, vI x_4, vI x_5, vI x_6] h =
    bI (evm d 189 [vR 12 r_0, vI x_1, vI x_2, vI x_3, vI x_4, vI x_5, vI x_6] h) fun x2 h1 =>
    ifp (x2 = 0)
      (some (some (vI (0 : Int32)), h1))
      (bR (hR h1 r_0 10) fun r3 =>
      ifp (inb (7 : Int32) (hN h1 r3) = true) (
      ifp ((hI h1 r3 (ix (7 : Int32))) < 0)
        (L_M_weightAt_92 d (1 : Int32) h1)
        (bR (hR h1 r_0 15) fun r4 =>
        bI (evm d 178 [vR 12 r_0, vI x_6] h1) fun x6 h5 =>
        ifp (inb (0 : Int32) (hN h5 r4) = true) (
        bR (hR (sI h5 r4 (ix (0 : Int32)) x6) r_0 15) fun r7 =>
        ifp (x_2 = 0)
          (L_M_weightAt_63 d r_0 x_1 x_5 (0 : Int32) (1 : Int32) r7 (sI h5 r4 (ix (0 : Int32)) x6))
          (bI (evm d 178 [vR 12 r_0, vI (x_2 - (1 : Int32))] (sI h5 r4 (ix (0 : Int32)) x6)) fun x9 h8 =>
          L_M_weightAt_63 d r_0 x_1 x_5 x9 (1 : Int32) r7 h8)) none)) none) := (evs_xpd _ tx_M_weightAt [63, 92] 71 _).trans rfl
noncomputable def L_M_goesCrowd_2 (d : Nat) (r_0 : Nat) (y_1 : Int64) (x_3 : Int32) (h : Hp) : Option Rs := evs (evm d) tx_M_goesCrowd (2, [some (vR 12 r_0), some (vL y_1), none, some (vI x_3), none, none, none, none], [], h)
noncomputable def L_M_goesCrowd_26 (d : Nat) (r_0 : Nat) (y_1 : Int64) (x_3 : Int32) (h : Hp) : Option Rs := evs (evm d) tx_M_goesCrowd (26, [some (vR 12 r_0), some (vL y_1), none, some (vI x_3), none, none, none, none], [], h)
noncomputable def L_M_goesCrowd_73 (d : Nat) (r_0 : Nat) (x_3 : Int32) (h : Hp) : Option Rs := evs (evm d) tx_M_goesCrowd (73, [some (vR 12 r_0), none, none, some (vI x_3), none, none, none, none], [], h)
noncomputable def L_M_goesCrowd_84 (d : Nat) (r_0 : Nat) (x_3 : Int32) (x_4 : Int32) (h : Hp) : Option Rs := evs (evm d) tx_M_goesCrowd (84, [some (vR 12 r_0), none, none, some (vI x_3), some (vI x_4), none, none, none], [], h)
noncomputable def L_M_goesCrowd_96 (d : Nat) (r_0 : Nat) (x_3 : Int32) (x_4 : Int32) (x_5 : Int32) (h : Hp) : Option Rs := evs (evm d) tx_M_goesCrowd (96, [some (vR 12 r_0), none, none, some (vI x_3), some (vI x_4), some (vI x_5), none, none], [], h)
noncomputable def L_M_goesCrowd_108 (d : Nat) (r_0 : Nat) (x_3 : Int32) (x_4 : Int32) (x_5 : Int32) (x_6 : Int32) (h : Hp) : Option Rs := evs (evm d) tx_M_goesCrowd (108, [some (vR 12 r_0), none, none, some (vI x_3), some (vI x_4), some (vI x_5), some (vI x_6), none], [], h)
noncomputable def L_M_goesCrowd_120 (d : Nat) (r_0 : Nat) (x_3 : Int32) (x_4 : Int32) (x_5 : Int32) (x_6 : Int32) (x_7 : Int32) (h : Hp) : Option Rs := evs (evm d) tx_M_goesCrowd (120, [some (vR 12 r_0), none, none, some (vI x_3), some (vI x_4), some (vI x_5), some (vI x_6), some (vI x_7)], [], h)
set_option maxRecDepth 100000 in
theorem e_M_goesCrowd_2 (d : Nat) (r_0 : Nat) (y_1 : Int64) (x_3 : Int32) (h : Hp) : L_M_goesCrowd_2 d r_0 y_1 x_3 h =
    bR (hR h r_0 23) fun r1 =>
    ifp (x_3 < (nI (hN h r1)))
      (bR (hR h r_0 23) fun r2 =>
      ifp (inb x_3 (hN h r2) = true) (
      L_M_goesCrowd_2 d r_0 y_1 (x_3 + (1 : Int32)) (sL h r2 (ix x_3) (0 : Int64))) none)
      (L_M_goesCrowd_26 d r_0 y_1 (0 : Int32) h) := (evs_xpd _ tx_M_goesCrowd [2, 26, 73, 84, 96, 108, 120] 108 _).trans rfl
set_option maxRecDepth 100000 in
theorem e_M_goesCrowd_26 (d : Nat) (r_0 : Nat) (y_1 : Int64) (x_3 : Int32) (h : Hp) : L_M_goesCrowd_26 d r_0 y_1 x_3 h =
    ifp ((40 : Int32) < x_3)
      (bR (hR (sL h r_0 30 (0 : Int64)) r_0 29) fun r1 =>
      ifp (inb (0 : Int32) (hN (sL h r_0 30 (0 : Int64)) r1) = true) (
      bR (hR (sL (sL h r_0 30 (0 : Int64)) r1 (ix (0 : Int32)) y_1) r_0 23) fun r2 =>
      bI (evm d 184 [vI (0 : Int32), vI (0 : Int32), vI (0 : Int32), vI (0 : Int32), vI (0 : Int32)] (sL (sL h r_0 30 (0 : Int64)) r1 (ix (0 : Int32)) y_1)) fun x4 h3 =>
      ifp (inb x4 (hN h3 r2) = true) (
      L_M_goesCrowd_73 d r_0 (0 : Int32) (sL h3 r2 (ix x4) y_1)) none) none)
      (bR (hR h r_0 29) fun r5 =>
      ifp (inb x_3 (hN h r5) = true) (
      L_M_goesCrowd_26 d r_0 y_1 (x_3 + (1 : Int32)) (sL h r5 (ix x_3) (0 : Int64))) none) := (evs_xpd _ tx_M_goesCrowd [2, 26, 73, 84, 96, 108, 120] 108 _).trans rfl
set_option maxRecDepth 100000 in
theorem e_M_goesCrowd_73 (d : Nat) (r_0 : Nat) (x_3 : Int32) (h : Hp) : L_M_goesCrowd_73 d r_0 x_3 h =
    bI (evm d 176 [vR 12 r_0] h) fun x2 h1 =>
    ifp (x_3 < x2)
      (L_M_goesCrowd_84 d r_0 x_3 (0 : Int32) h1)
      (some (none, h1)) := (evs_xpd _ tx_M_goesCrowd [2, 26, 73, 84, 96, 108, 120] 108 _).trans rfl
set_option maxRecDepth 100000 in
theorem e_M_goesCrowd_84 (d : Nat) (r_0 : Nat) (x_3 : Int32) (x_4 : Int32) (h : Hp) : L_M_goesCrowd_84 d r_0 x_3 x_4 h =
    bI (evm d 177 [vR 12 r_0] h) fun x2 h1 =>
    ifp (x2 < x_4)
      (L_M_goesCrowd_73 d r_0 (x_3 + (1 : Int32)) h1)
      (L_M_goesCrowd_96 d r_0 x_3 x_4 (0 : Int32) h1) := (evs_xpd _ tx_M_goesCrowd [2, 26, 73, 84, 96, 108, 120] 108 _).trans rfl
set_option maxRecDepth 100000 in
theorem e_M_goesCrowd_96 (d : Nat) (r_0 : Nat) (x_3 : Int32) (x_4 : Int32) (x_5 : Int32) (h : Hp) : L_M_goesCrowd_96 d r_0 x_3 x_4 x_5 h =
    bI (evm d 191 [vR 12 r_0] h) fun x2 h1 =>
    ifp (x2 < x_5)
      (L_M_goesCrowd_84 d r_0 x_3 (x_4 + (1 : Int32)) h1)
      (L_M_goesCrowd_108 d r_0 x_3 x_4 x_5 (0 : Int32) h1) := (evs_xpd _ tx_M_goesCrowd [2, 26, 73, 84, 96, 108, 120] 108 _).trans rfl
set_option maxRecDepth 100000 in
theorem e_M_goesCrowd_108 (d : Nat) (r_0 : Nat) (x_3 : Int32) (x_4 : Int32) (x_5 : Int32) (x_6 : Int32) (h : Hp) : L_M_goesCrowd_108 d r_0 x_3 x_4 x_5 x_6 h =
    bI (evm d 192 [vR 12 r_0] h) fun x2 h1 =>
    ifp (x2 < x_6)
      (L_M_goesCrowd_96 d r_0 x_3 x_4 (x_5 + (1 : Int32)) h1)
      (L_M_goesCrowd_120 d r_0 x_3 x_4 x_5 x_6 (0 : Int32) h1) := (evs_xpd _ tx_M_goesCrowd [2, 26, 73, 84, 96, 108, 120] 108 _).trans rfl
set_option maxRecDepth 100000 in
theorem e_M_goesCrowd_120 (d : Nat) (r_0 : Nat) (x_3 : Int32) (x_4 : Int32) (x_5 : Int32) (x_6 : Int32) (x_7 : Int32) (h : Hp) : L_M_goesCrowd_120 d r_0 x_3 x_4 x_5 x_6 x_7 h =
    ifp (x_3 < x_7)
      (L_M_goesCrowd_108 d r_0 x_3 x_4 x_5 (x_6 + (1 : Int32)) h)
      (bR (hR h r_0 23) fun r1 =>
      bI (evm d 184 [vI x_3, vI x_4, vI x_5, vI x_6, vI x_7] h) fun x3 h2 =>
      ifp (inb x3 (hN h2 r1) = true) (
      ifp (0 < (lg_cmp (hL h2 r1 (ix x3)) (0 : Int64)))
        (bV (evm d 216 [vR 12 r_0, vI x_3, vI x_4, vI x_5, vI x_6, vI x_7] h2) fun h4 =>
        L_M_goesCrowd_120 d r_0 x_3 x_4 x_5 x_6 (x_7 + (1 : Int32)) h4)
        (L_M_goesCrowd_120 d r_0 x_3 x_4 x_5 x_6 (x_7 + (1 : Int32)) h2)) none) := (evs_xpd _ tx_M_goesCrowd [2, 26, 73, 84, 96, 108, 120] 108 _).trans rfl
set_option maxRecDepth 100000 in
theorem e_M_goesCrowd (d : Nat) (r_0 : Nat) (y_1 : Int64) (h : Hp) : evm (d + 1) 215 [vR 12 r_0, vL y_1] h =
    L_M_goesCrowd_2 d r_0 y_1 (0 : Int32) h := (evs_xpd _ tx_M_goesCrowd [2, 26, 73, 84, 96, 108, 120] 108 _).trans rfl
noncomputable def L_M_parts_26 (d : Nat) (r_0 : Nat) (x_1 : Int32) (x_2 : Int32) (x_3 : Int32) (x_4 : Int32) (x_5 : Int32) (y_6 : Int64) (x_8 : Int32) (x_9 : Int32) (x_10 : Int32) (h : Hp) : Option Rs := evs (evm d) tx_M_parts (26, [some (vR 12 r_0), some (vI x_1), some (vI x_2), some (vI x_3), some (vI x_4), some (vI x_5), some (vL y_6), none, some (vI x_8), some (vI x_9), some (vI x_10), none, none, none, none], [], h)
noncomputable def L_M_parts_89 (d : Nat) (r_0 : Nat) (x_1 : Int32) (x_2 : Int32) (x_3 : Int32) (x_4 : Int32) (x_5 : Int32) (y_6 : Int64) (x_8 : Int32) (x_9 : Int32) (y_10 : Int64) (x_12 : Int32) (h : Hp) : Option Rs := evs (evm d) tx_M_parts (89, [some (vR 12 r_0), some (vI x_1), some (vI x_2), some (vI x_3), some (vI x_4), some (vI x_5), some (vL y_6), none, some (vI x_8), some (vI x_9), some (vL y_10), none, some (vI x_12), none, none], [], h)
noncomputable def L_M_parts_154 (d : Nat) (r_0 : Nat) (x_1 : Int32) (x_2 : Int32) (x_3 : Int32) (x_4 : Int32) (x_5 : Int32) (x_8 : Int32) (x_9 : Int32) (y_10 : Int64) (h : Hp) : Option Rs := evs (evm d) tx_M_parts (154, [some (vR 12 r_0), some (vI x_1), some (vI x_2), some (vI x_3), some (vI x_4), some (vI x_5), none, none, some (vI x_8), some (vI x_9), some (vL y_10), none, none, none, none], [], h)
set_option maxRecDepth 100000 in
theorem e_M_parts_26 (d : Nat) (r_0 : Nat) (x_1 : Int32) (x_2 : Int32) (x_3 : Int32) (x_4 : Int32) (x_5 : Int32) (y_6 : Int64) (x_8 : Int32) (x_9 : Int32) (x_10 : Int32) (h : Hp) : L_M_parts_26 d r_0 x_1 x_2 x_3 x_4 x_5 y_6 x_8 x_9 x_10 h =
    bI (evm d 177 [vR 12 r_0] h) fun x2 h1 =>
    ifp (x_10 < x2)
      (bI (evm d 214 [vR 12 r_0, vI x_1, vI x_2, vI x_3, vI x_4, vI x_5, vI x_10] h1) fun x4 h3 =>
      ifp (x_9 < 0)
        (ifp (0 < x4)
          (L_M_parts_26 d r_0 x_1 x_2 x_3 x_4 x_5 y_6 (x_8 + x4) x_10 (x_10 + (1 : Int32)) h3)
          (L_M_parts_26 d r_0 x_1 x_2 x_3 x_4 x_5 y_6 (x_8 + x4) x_9 (x_10 + (1 : Int32)) h3))
        (L_M_parts_26 d r_0 x_1 x_2 x_3 x_4 x_5 y_6 (x_8 + x4) x_9 (x_10 + (1 : Int32)) h3))
      (L_M_parts_89 d r_0 x_1 x_2 x_3 x_4 x_5 y_6 x_8 x_9 y_6 (0 : Int32) h1) := (evs_xpd _ tx_M_parts [26, 89, 154] 100 _).trans rfl
set_option maxRecDepth 100000 in
theorem e_M_parts_89 (d : Nat) (r_0 : Nat) (x_1 : Int32) (x_2 : Int32) (x_3 : Int32) (x_4 : Int32) (x_5 : Int32) (y_6 : Int64) (x_8 : Int32) (x_9 : Int32) (y_10 : Int64) (x_12 : Int32) (h : Hp) : L_M_parts_89 d r_0 x_1 x_2 x_3 x_4 x_5 y_6 x_8 x_9 y_10 x_12 h =
    bI (evm d 177 [vR 12 r_0] h) fun x2 h1 =>
    ifp (x_12 < x2)
      (ifp (0 < x_8)
        (bI (evm d 214 [vR 12 r_0, vI x_1, vI x_2, vI x_3, vI x_4, vI x_5, vI x_12] h1) fun x4 h3 =>
        ifp (x_8.toInt64 = 0) none (
        bV (evm d 217 [vR 12 r_0, vI x_1, vI x_2, vI x_3, vI x_4, vI x_5, vI x_12, vL ((y_6 * x4.toInt64) / x_8.toInt64)] h3) fun h5 =>
        L_M_parts_89 d r_0 x_1 x_2 x_3 x_4 x_5 y_6 x_8 x_9 (y_10 - ((y_6 * x4.toInt64) / x_8.toInt64)) (x_12 + (1 : Int32)) h5))
        (L_M_parts_154 d r_0 x_1 x_2 x_3 x_4 x_5 x_8 x_9 y_10 h1))
      (L_M_parts_154 d r_0 x_1 x_2 x_3 x_4 x_5 x_8 x_9 y_10 h1) := (evs_xpd _ tx_M_parts [26, 89, 154] 100 _).trans rfl
set_option maxRecDepth 100000 in
theorem e_M_parts_154 (d : Nat) (r_0 : Nat) (x_1 : Int32) (x_2 : Int32) (x_3 : Int32) (x_4 : Int32) (x_5 : Int32) (x_8 : Int32) (x_9 : Int32) (y_10 : Int64) (h : Hp) : L_M_parts_154 d r_0 x_1 x_2 x_3 x_4 x_5 x_8 x_9 y_10 h =
    ifp (0 < x_8)
      (bV (evm d 217 [vR 12 r_0, vI x_1, vI x_2, vI x_3, vI x_4, vI x_5, vI x_9, vL y_10] h) fun h1 =>
      some (none, h1))
      (some (none, h)) := (evs_xpd _ tx_M_parts [26, 89, 154] 100 _).trans rfl
set_option maxRecDepth 100000 in
theorem e_M_parts (d : Nat) (r_0 : Nat) (x_1 : Int32) (x_2 : Int32) (x_3 : Int32) (x_4 : Int32) (x_5 : Int32) (h : Hp) : evm (d + 1) 216 [vR 12 r_0, vI x_1, vI x_2, vI x_3, vI x_4, vI x_5] h =
    bR (hR h r_0 23) fun r1 =>
    bI (evm d 184 [vI x_1, vI x_2, vI x_3, vI x_4, vI x_5] h) fun x3 h2 =>
    ifp (inb x3 (hN h2 r1) = true) (
    L_M_parts_26 d r_0 x_1 x_2 x_3 x_4 x_5 (hL h2 r1 (ix x3)) (0 : Int32) (-1 : Int32) (0 : Int32) h2) none := (evs_xpd _ tx_M_parts [26, 89, 154] 100 _).trans rfl
set_option maxRecDepth 100000 in
theorem e_M_moves (d : Nat) (r_0 : Nat) (x_1 : Int32) (x_2 : Int32) (x_3 : Int32) (x_4 : Int32) (x_5 : Int32) (x_6 : Int32) (y_7 : Int64) (h : Hp) : evm (d + 1) 217 [vR 12 r_0, vI x_1, vI x_2, vI x_3, vI x_4, vI x_5, vI x_6, vL y_7] h =
    ifp (0 < (lg_cmp y_7 (0 : Int64)))
      (bR (hR h r_0 23) fun r1 =>
      bI (evm d 190 [vR 12 r_0, vI x_1, vI x_2, vI x_3, vI x_4, vI x_5, vI x_6] h) fun x3 h2 =>
      ifp (inb x3 (hN h2 r1) = true) (
      ifp (inb x3 (hN h2 r1) = true) (
      bR (hR (sL h2 r1 (ix x3) ((hL h2 r1 (ix x3)) + y_7)) r_0 29) fun r4 =>
      bI (evm d 178 [vR 12 r_0, vI x_6] (sL h2 r1 (ix x3) ((hL h2 r1 (ix x3)) + y_7))) fun x6 h5 =>
      ifp (inb (x_1 + x6) (hN h5 r4) = true) (
      ifp (inb (x_1 + x6) (hN h5 r4) = true) (
      some (none, sL (sL h5 r4 (ix (x_1 + x6)) ((hL h5 r4 (ix (x_1 + x6))) + y_7)) r_0 30 ((hL (sL h5 r4 (ix (x_1 + x6)) ((hL h5 r4 (ix (x_1 + x6))) + y_7)) r_0 30) + y_7))) none) none) none) none)
      (some (none, h)) := (evs_xpd _ tx_M_moves [] 43 _).trans rfl
set_option maxRecDepth 100000 in
theorem e_M_isCrowd (d : Nat) (y_0 : Int64) (h : Hp) : evm (d + 1) 218 [vL y_0] h =
    ifp ((lg_cmp y_0 (1 : Int64)) < 0)
      (some (some (vI (0 : Int32)), h))
      (ifp (0 < (lg_cmp y_0 (1000000000000 : Int64)))
        (some (some (vI (0 : Int32)), h))
        (some (some (vI (1 : Int32)), h))) := (evs_xpd _ tx_M_isCrowd [] 17 _).trans rfl
set_option maxRecDepth 100000 in
theorem e_M_crowd (d : Nat) (r_0 : Nat) (y_1 : Int64) (x_3 : Int32) (h : Hp) : evm (d + 1) 219 [vR 12 r_0, vL y_1, vI x_3] h =
    bI (evm d 218 [vL y_1] (sI h r_0 0 (0 : Int32))) fun x2 h1 =>
    ifp (x2 = 0)
      (some (some (vL (-1 : Int64)), h1))
      (bI (evm d 176 [vR 12 r_0] h1) fun x4 h3 =>
      bI (evm d 154 [vI x_3, vI (0 : Int32), vI x4] h3) fun x6 h5 =>
      ifp (x6 = 0)
        (some (some (vL (-1 : Int64)), h5))
        (bV (evm d 215 [vR 12 r_0, vL y_1] (sI h5 r_0 24 (0 : Int32))) fun h7 =>
        bR (hR h7 r_0 29) fun r8 =>
        ifp (inb x_3 (hN h7 r8) = true) (
        some (some (vL (hL h7 r8 (ix x_3))), h7)) none)) := (evs_xpd _ tx_M_crowd [] 30 _).trans rfl
set_option maxRecDepth 100000 in
theorem e_M_weary (d : Nat) (r_0 : Nat) (y_1 : Int64) (h : Hp) : evm (d + 1) 220 [vR 12 r_0, vL y_1] h =
    bI (evm d 218 [vL y_1] (sI h r_0 0 (0 : Int32))) fun x2 h1 =>
    ifp (x2 = 0)
      (some (some (vL (-1 : Int64)), h1))
      (bV (evm d 215 [vR 12 r_0, vL y_1] (sI h1 r_0 24 (0 : Int32))) fun h3 =>
      some (some (vL (hL h3 r_0 30)), h3)) := (evs_xpd _ tx_M_weary [] 22 _).trans rfl
set_option maxRecDepth 100000 in
theorem e_M_weight (d : Nat) (r_0 : Nat) (x_1 : Int32) (h : Hp) : evm (d + 1) 221 [vR 12 r_0, vI x_1] h =
    bI (evm d 200 [vR 12 r_0, vI x_1] h) fun x2 h1 =>
    ifp (x2 = 0)
      (some (some (vI (-1 : Int32)), h1))
      (bI (evm d 185 [vR 12 r_0, vI (hI h1 r_0 21)] h1) fun x4 h3 =>
      bI (evm d 180 [vR 12 r_0] h3) fun x6 h5 =>
      bI (evm d 181 [vR 12 r_0, vI x_1] h5) fun x8 h7 =>
      bI (evm d 214 [vR 12 r_0, vI (hI h1 r_0 19), vI (hI h1 r_0 20), vI x4, vI (hI h3 r_0 22), vI x6, vI x8] h7) fun x10 h9 =>
      some (some (vI x10), h9)) := (evs_xpd _ tx_M_weight [] 29 _).trans rfl
noncomputable def L_M_comes_17 (d : Nat) (r_0 : Nat) (xs0 : Int32) (h : Hp) : Option Rs := evs (evm d) tx_M_comes (17, [some (vR 12 r_0), none, none, none, none], [vI xs0], h)
set_option maxRecDepth 100000 in
theorem e_M_comes_17 (d : Nat) (r_0 : Nat) (xs0 : Int32) (h : Hp) : L_M_comes_17 d r_0 xs0 h =
    ifp (xs0 < 0)
      (some (some (vI (-1 : Int32)), h))
      (bI (evm d 176 [vR 12 r_0] h) fun x2 h1 =>
      ifp (x2 < xs0)
        (some (some (vI (-1 : Int32)), h1))
        (bI (evm d 179 [vR 12 r_0, vI xs0] h1) fun x4 h3 =>
        ifp (x4 = (1 : Int32))
          (some (some (vI (-1 : Int32)), h3))
          (some (some (vI xs0), h3)))) := (evs_xpd _ tx_M_comes [17] 32 _).trans rfl
set_option maxRecDepth 100000 in
theorem e_M_comes (d : Nat) (r_0 : Nat) (x_1 : Int32) (x_2 : Int32) (x_3 : Int32) (h : Hp) : evm (d + 1) 222 [vR 12 r_0, vI x_1, vI x_2, vI x_3] h =
    ifp (x_2 < 0)
      (L_M_comes_17 d r_0 x_1 h)
      (bI (evm d 178 [vR 12 r_0, vI x_2] h) fun x2 h1 =>
      L_M_comes_17 d r_0 (x_1 + (x_3 * x2)) h1) := (evs_xpd _ tx_M_comes [17] 32 _).trans rfl
noncomputable def L_M_two_25 (d : Nat) (r_0 : Nat) (x_1 : Int32) (x_2 : Int32) (h : Hp) : Option Rs := evs (evm d) tx_M_two (25, [some (vR 12 r_0), some (vI x_1), some (vI x_2), none, none, none, none, none, none, none], [], h)
noncomputable def L_M_two_31 (d : Nat) (r_0 : Nat) (x_1 : Int32) (x_2 : Int32) (x_3 : Int32) (h : Hp) : Option Rs := evs (evm d) tx_M_two (31, [some (vR 12 r_0), some (vI x_1), some (vI x_2), some (vI x_3), none, none, none, none, none, none], [], h)
noncomputable def L_M_two_50 (d : Nat) (r_0 : Nat) (x_1 : Int32) (x_2 : Int32) (x_3 : Int32) (ys0 : Int64) (h : Hp) : Option Rs := evs (evm d) tx_M_two (50, [some (vR 12 r_0), some (vI x_1), some (vI x_2), some (vI x_3), none, none, none, none, none, none], [vL ys0], h)
noncomputable def L_M_two_64 (d : Nat) (r_0 : Nat) (x_1 : Int32) (x_2 : Int32) (x_3 : Int32) (y_4 : Int64) (x_6 : Int32) (h : Hp) : Option Rs := evs (evm d) tx_M_two (64, [some (vR 12 r_0), some (vI x_1), some (vI x_2), some (vI x_3), some (vL y_4), none, some (vI x_6), none, none, none], [], h)
noncomputable def L_M_two_79 (d : Nat) (r_0 : Nat) (x_1 : Int32) (x_2 : Int32) (x_3 : Int32) (y_4 : Int64) (x_6 : Int32) (xs0 : Int32) (xs1 : Int32) (h : Hp) : Option Rs := evs (evm d) tx_M_two (79, [some (vR 12 r_0), some (vI x_1), some (vI x_2), some (vI x_3), some (vL y_4), none, some (vI x_6), none, none, none], [vI xs0, vI xs1], h)
noncomputable def L_M_two_93 (d : Nat) (r_0 : Nat) (x_1 : Int32) (x_2 : Int32) (x_3 : Int32) (y_4 : Int64) (x_6 : Int32) (x_7 : Int32) (h : Hp) : Option Rs := evs (evm d) tx_M_two (93, [some (vR 12 r_0), some (vI x_1), some (vI x_2), some (vI x_3), some (vL y_4), none, some (vI x_6), some (vI x_7), none, none], [], h)
noncomputable def L_M_two_107 (d : Nat) (r_0 : Nat) (x_1 : Int32) (x_2 : Int32) (x_3 : Int32) (y_4 : Int64) (x_6 : Int32) (x_7 : Int32) (xs0 : Int32) (xs1 : Int32) (h : Hp) : Option Rs := evs (evm d) tx_M_two (107, [some (vR 12 r_0), some (vI x_1), some (vI x_2), some (vI x_3), some (vL y_4), none, some (vI x_6), some (vI x_7), none, none], [vI xs0, vI xs1], h)
noncomputable def L_M_two_119 (d : Nat) (r_0 : Nat) (x_1 : Int32) (x_2 : Int32) (x_3 : Int32) (y_4 : Int64) (x_6 : Int32) (x_7 : Int32) (h : Hp) : Option Rs := evs (evm d) tx_M_two (119, [some (vR 12 r_0), some (vI x_1), some (vI x_2), some (vI x_3), some (vL y_4), none, some (vI x_6), some (vI x_7), none, none], [], h)
set_option maxRecDepth 100000 in
theorem e_M_two_25 (d : Nat) (r_0 : Nat) (x_1 : Int32) (x_2 : Int32) (h : Hp) : L_M_two_25 d r_0 x_1 x_2 h =
    ifp (x_2 < 0)
      (bR (hR h r_0 31) fun r1 =>
      ifp (inb x_1 (hN h r1) = true) (
      some (some (vL (hL h r1 (ix x_1))), h)) none)
      (L_M_two_31 d r_0 x_1 x_2 (0 : Int32) h) := (evs_xpd _ tx_M_two [25, 31, 50, 64, 79, 93, 107, 119] 124 _).trans rfl
set_option maxRecDepth 100000 in
theorem e_M_two_31 (d : Nat) (r_0 : Nat) (x_1 : Int32) (x_2 : Int32) (x_3 : Int32) (h : Hp) : L_M_two_31 d r_0 x_1 x_2 x_3 h =
    ifp (x_1 < x_3)
      (L_M_two_25 d r_0 x_1 (x_2 + (-1 : Int32)) h)
      (ifp (x_2 = x_1)
        (ifp (x_3 = 0)
          (L_M_two_50 d r_0 x_1 x_2 x_3 (1 : Int64) h)
          (L_M_two_50 d r_0 x_1 x_2 x_3 (0 : Int64) h))
        (L_M_two_50 d r_0 x_1 x_2 x_3 (0 : Int64) h)) := (evs_xpd _ tx_M_two [25, 31, 50, 64, 79, 93, 107, 119] 124 _).trans rfl
set_option maxRecDepth 100000 in
theorem e_M_two_50 (d : Nat) (r_0 : Nat) (x_1 : Int32) (x_2 : Int32) (x_3 : Int32) (ys0 : Int64) (h : Hp) : L_M_two_50 d r_0 x_1 x_2 x_3 ys0 h =
    ifp (x_2 = x_1)
      (L_M_two_64 d r_0 x_1 x_2 x_3 ys0 (-1 : Int32) h)
      (L_M_two_64 d r_0 x_1 x_2 x_3 ys0 (0 : Int32) h) := (evs_xpd _ tx_M_two [25, 31, 50, 64, 79, 93, 107, 119] 124 _).trans rfl
set_option maxRecDepth 100000 in
theorem e_M_two_64 (d : Nat) (r_0 : Nat) (x_1 : Int32) (x_2 : Int32) (x_3 : Int32) (y_4 : Int64) (x_6 : Int32) (h : Hp) : L_M_two_64 d r_0 x_1 x_2 x_3 y_4 x_6 h =
    ifp (x_2 = x_1)
      (L_M_two_79 d r_0 x_1 x_2 x_3 y_4 x_6 (0 : Int32) x_6 h)
      (bI (evm d 177 [vR 12 r_0] h) fun x2 h1 =>
      L_M_two_79 d r_0 x_1 x_2 x_3 y_4 x_6 x2 x_6 h1) := (evs_xpd _ tx_M_two [25, 31, 50, 64, 79, 93, 107, 119] 124 _).trans rfl
set_option maxRecDepth 100000 in
theorem e_M_two_79 (d : Nat) (r_0 : Nat) (x_1 : Int32) (x_2 : Int32) (x_3 : Int32) (y_4 : Int64) (x_6 : Int32) (xs0 : Int32) (xs1 : Int32) (h : Hp) : L_M_two_79 d r_0 x_1 x_2 x_3 y_4 x_6 xs0 xs1 h =
    ifp (xs1 < xs0)
      (ifp (x_3 = 0)
        (L_M_two_93 d r_0 x_1 x_2 x_3 y_4 x_6 (-1 : Int32) h)
        (L_M_two_93 d r_0 x_1 x_2 x_3 y_4 x_6 (0 : Int32) h))
      (bR (hR h r_0 31) fun r1 =>
      ifp (inb (((25 : Int32) * x_2) + x_3) (hN h r1) = true) (
      L_M_two_31 d r_0 x_1 x_2 (x_3 + (1 : Int32)) (sL h r1 (ix (((25 : Int32) * x_2) + x_3)) y_4)) none) := (evs_xpd _ tx_M_two [25, 31, 50, 64, 79, 93, 107, 119] 124 _).trans rfl
set_option maxRecDepth 100000 in
theorem e_M_two_93 (d : Nat) (r_0 : Nat) (x_1 : Int32) (x_2 : Int32) (x_3 : Int32) (y_4 : Int64) (x_6 : Int32) (x_7 : Int32) (h : Hp) : L_M_two_93 d r_0 x_1 x_2 x_3 y_4 x_6 x_7 h =
    ifp (x_3 = 0)
      (L_M_two_107 d r_0 x_1 x_2 x_3 y_4 x_6 x_7 (0 : Int32) x_7 h)
      (bI (evm d 177 [vR 12 r_0] h) fun x2 h1 =>
      L_M_two_107 d r_0 x_1 x_2 x_3 y_4 x_6 x_7 x2 x_7 h1) := (evs_xpd _ tx_M_two [25, 31, 50, 64, 79, 93, 107, 119] 124 _).trans rfl
set_option maxRecDepth 100000 in
theorem e_M_two_107 (d : Nat) (r_0 : Nat) (x_1 : Int32) (x_2 : Int32) (x_3 : Int32) (y_4 : Int64) (x_6 : Int32) (x_7 : Int32) (xs0 : Int32) (xs1 : Int32) (h : Hp) : L_M_two_107 d r_0 x_1 x_2 x_3 y_4 x_6 x_7 xs0 xs1 h =
    ifp (xs1 < xs0)
      (ifp (x_2 < x_1)
        (L_M_two_119 d r_0 x_1 x_2 x_3 y_4 x_6 x_7 h)
        (ifp (0 < x_3)
          (L_M_two_119 d r_0 x_1 x_2 x_3 y_4 x_6 x_7 h)
          (L_M_two_64 d r_0 x_1 x_2 x_3 y_4 (x_6 + (1 : Int32)) h)))
      (L_M_two_64 d r_0 x_1 x_2 x_3 y_4 (x_6 + (1 : Int32)) h) := (evs_xpd _ tx_M_two [25, 31, 50, 64, 79, 93, 107, 119] 124 _).trans rfl
set_option maxRecDepth 100000 in
theorem e_M_two_119 (d : Nat) (r_0 : Nat) (x_1 : Int32) (x_2 : Int32) (x_3 : Int32) (y_4 : Int64) (x_6 : Int32) (x_7 : Int32) (h : Hp) : L_M_two_119 d r_0 x_1 x_2 x_3 y_4 x_6 x_7 h =
    bI (evm d 222 [vR 12 r_0, vI x_2, vI x_6, vI (1 : Int32)] h) fun x2 h1 =>
    bI (evm d 222 [vR 12 r_0, vI x_3, vI x_7, vI (-1 : Int32)] h1) fun x4 h3 =>
    ifp (x2 < 0)
      (L_M_two_93 d r_0 x_1 x_2 x_3 (y_4 + (0 : Int64)) x_6 (x_7 + (1 : Int32)) h3)
      (ifp (x4 < 0)
        (L_M_two_93 d r_0 x_1 x_2 x_3 (y_4 + (0 : Int64)) x_6 (x_7 + (1 : Int32)) h3)
        (ifp (x2 = x4)
          (L_M_two_93 d r_0 x_1 x_2 x_3 (y_4 + (0 : Int64)) x_6 (x_7 + (1 : Int32)) h3)
          (bR (hR h3 r_0 31) fun r5 =>
          ifp (inb (((25 : Int32) * x2) + x4) (hN h3 r5) = true) (
          L_M_two_93 d r_0 x_1 x_2 x_3 (y_4 + (hL h3 r5 (ix (((25 : Int32) * x2) + x4)))) x_6 (x_7 + (1 : Int32)) h3) none))) := (evs_xpd _ tx_M_two [25, 31, 50, 64, 79, 93, 107, 119] 124 _).trans rfl
set_option maxRecDepth 100000 in
theorem e_M_two (d : Nat) (r_0 : Nat) (h : Hp) : evm (d + 1) 223 [vR 12 r_0] h =
    bI (evm d 176 [vR 12 r_0] (sI h r_0 0 (0 : Int32))) fun x2 h1 =>
    ifp ((24 : Int32) < x2)
      (some (some (vL (-1 : Int64)), h1))
      (bI (evm d 176 [vR 12 r_0] h1) fun x4 h3 =>
      L_M_two_25 d r_0 x4 x4 h3) := (evs_xpd _ tx_M_two [25, 31, 50, 64, 79, 93, 107, 119] 124 _).trans rfl
noncomputable def L_M_game_35 (d : Nat) (r_0 : Nat) (x_1 : Int32) (h : Hp) : Option Rs := evs (evm d) tx_M_game (35, [some (vR 12 r_0), some (vI x_1)], [], h)
noncomputable def L_M_game_43 (d : Nat) (r_0 : Nat) (x_1 : Int32) (h : Hp) : Option Rs := evs (evm d) tx_M_game (43, [some (vR 12 r_0), some (vI x_1)], [], h)
set_option maxRecDepth 100000 in
theorem e_M_game_35 (d : Nat) (r_0 : Nat) (x_1 : Int32) (h : Hp) : L_M_game_35 d r_0 x_1 h =
    bI (evm d 177 [vR 12 r_0] h) fun x2 h1 =>
    ifp (x_1 < x2)
      (L_M_game_43 d r_0 x_1 h1)
      (some (some (vI (0 : Int32)), h1)) := (evs_xpd _ tx_M_game [35, 43] 72 _).trans rfl
set_option maxRecDepth 100000 in
theorem e_M_game_43 (d : Nat) (r_0 : Nat) (x_1 : Int32) (h : Hp) : L_M_game_43 d r_0 x_1 h =
    bI (evm d 198 [vR 12 r_0, vI x_1] h) fun x2 h1 =>
    ifp (x2 = 0)
      (L_M_game_35 d r_0 (x_1 + (1 : Int32)) h1)
      (bI (evm d 178 [vR 12 r_0, vI x_1] h1) fun x4 h3 =>
      bI (evm d 176 [vR 12 r_0] h3) fun x6 h5 =>
      ifp (((hI h1 r_0 19) + x4) = x6)
        (bI (evm d 178 [vR 12 r_0, vI x_1] h5) fun x8 h7 =>
        some (some (vI x8), h7))
        (bR (hR h5 r_0 23) fun r9 =>
        bI (evm d 185 [vR 12 r_0, vI (hI h5 r_0 21)] h5) fun x11 h10 =>
        bI (evm d 180 [vR 12 r_0] h10) fun x13 h12 =>
        bI (evm d 190 [vR 12 r_0, vI (hI h5 r_0 19), vI (hI h5 r_0 20), vI x11, vI (hI h10 r_0 22), vI x13, vI x_1] h12) fun x15 h14 =>
        ifp (inb x15 (hN h14 r9) = true) (
        ifp ((lg_cmp (hL h14 r9 (ix x15)) (0 : Int64)) = 0)
          (bI (evm d 178 [vR 12 r_0, vI x_1] h14) fun x17 h16 =>
          some (some (vI x17), h16))
          (L_M_game_35 d r_0 (x_1 + (1 : Int32)) h14)) none)) := (evs_xpd _ tx_M_game [35, 43] 72 _).trans rfl
set_option maxRecDepth 100000 in
theorem e_M_game (d : Nat) (r_0 : Nat) (h : Hp) : evm (d + 1) 224 [vR 12 r_0] h =
    bV (evm d 183 [vR 12 r_0] (sI (sI h r_0 0 (0 : Int32)) r_0 24 (0 : Int32))) fun h1 =>
    bI (evm d 176 [vR 12 r_0] h1) fun x3 h2 =>
    ifp ((hI h1 r_0 19) = x3)
      (some (some (vI (-1 : Int32)), h2))
      (bV (evm d 194 [vR 12 r_0, vI (-1 : Int32), vI (1 : Int32)] h2) fun h4 =>
      L_M_game_35 d r_0 (0 : Int32) h4) := (evs_xpd _ tx_M_game [35, 43] 72 _).trans rfl
noncomputable def L_M_findHeaps_5 (d : Nat) (r_0 : Nat) (x_1 : Int32) (h : Hp) : Option Rs := evs (evm d) tx_M_findHeaps (5, [some (vR 12 r_0), some (vI x_1), none, none, none], [], h)
noncomputable def L_M_findHeaps_13 (d : Nat) (r_0 : Nat) (x_1 : Int32) (x_2 : Int32) (x_3 : Int32) (h : Hp) : Option Rs := evs (evm d) tx_M_findHeaps (13, [some (vR 12 r_0), some (vI x_1), some (vI x_2), some (vI x_3), none], [], h)
noncomputable def L_M_findHeaps_73 (d : Nat) (r_0 : Nat) (x_1 : Int32) (x_2 : Int32) (x_3 : Int32) (h : Hp) : Option Rs := evs (evm d) tx_M_findHeaps (73, [some (vR 12 r_0), some (vI x_1), some (vI x_2), some (vI x_3), none], [], h)
set_option maxRecDepth 100000 in
theorem e_M_findHeaps_5 (d : Nat) (r_0 : Nat) (x_1 : Int32) (h : Hp) : L_M_findHeaps_5 d r_0 x_1 h =
    ifp (x_1 < 0)
      (some (none, h))
      (L_M_findHeaps_13 d r_0 x_1 (0 : Int32) (0 : Int32) h) := (evs_xpd _ tx_M_findHeaps [5, 13, 73] 78 _).trans rfl
set_option maxRecDepth 100000 in
theorem e_M_findHeaps_13 (d : Nat) (r_0 : Nat) (x_1 : Int32) (x_2 : Int32) (x_3 : Int32) (h : Hp) : L_M_findHeaps_13 d r_0 x_1 x_2 x_3 h =
    bI (evm d 177 [vR 12 r_0] h) fun x2 h1 =>
    ifp (x_3 < x2)
      (bI (evm d 178 [vR 12 r_0, vI x_3] h1) fun x4 h3 =>
      bI (evm d 176 [vR 12 r_0] h3) fun x6 h5 =>
      ifp (x6 < (x_1 + x4))
        (L_M_findHeaps_13 d r_0 x_1 (x_2 ||| (0 : Int32)) (x_3 + (1 : Int32)) h5)
        (bI (evm d 179 [vR 12 r_0, vI (x_1 + x4)] h5) fun x8 h7 =>
        ifp (x8 = (1 : Int32))
          (L_M_findHeaps_13 d r_0 x_1 (x_2 ||| (0 : Int32)) (x_3 + (1 : Int32)) h7)
          (bR (hR h7 r_0 32) fun r9 =>
          ifp (inb (x_1 + x4) (hN h7 r9) = true) (
          L_M_findHeaps_13 d r_0 x_1 (x_2 ||| ((1 : Int32) <<< ((hI h7 r9 (ix (x_1 + x4))) &&& 31))) (x_3 + (1 : Int32)) h7) none)))
      (L_M_findHeaps_73 d r_0 x_1 x_2 (0 : Int32) h1) := (evs_xpd _ tx_M_findHeaps [5, 13, 73] 78 _).trans rfl
set_option maxRecDepth 100000 in
theorem e_M_findHeaps_73 (d : Nat) (r_0 : Nat) (x_1 : Int32) (x_2 : Int32) (x_3 : Int32) (h : Hp) : L_M_findHeaps_73 d r_0 x_1 x_2 x_3 h =
    ifp (((x_2 >>> (x_3 &&& 31)) &&& (1 : Int32)) = (1 : Int32))
      (L_M_findHeaps_73 d r_0 x_1 x_2 (x_3 + (1 : Int32)) h)
      (bR (hR h r_0 32) fun r1 =>
      bI (evm d 179 [vR 12 r_0, vI x_1] h) fun x3 h2 =>
      ifp (x3 = (1 : Int32))
        (ifp (inb x_1 (hN h2 r1) = true) (
        L_M_findHeaps_5 d r_0 (x_1 + (-1 : Int32)) (sI h2 r1 (ix x_1) (-1 : Int32))) none)
        (bI (evm d 176 [vR 12 r_0] h2) fun x5 h4 =>
        ifp (x_1 = x5)
          (ifp (inb x_1 (hN h4 r1) = true) (
          L_M_findHeaps_5 d r_0 (x_1 + (-1 : Int32)) (sI h4 r1 (ix x_1) (0 : Int32))) none)
          (ifp (inb x_1 (hN h4 r1) = true) (
          L_M_findHeaps_5 d r_0 (x_1 + (-1 : Int32)) (sI h4 r1 (ix x_1) x_3)) none))) := (evs_xpd _ tx_M_findHeaps [5, 13, 73] 78 _).trans rfl
set_option maxRecDepth 100000 in
theorem e_M_findHeaps (d : Nat) (r_0 : Nat) (h : Hp) : evm (d + 1) 225 [vR 12 r_0] h =
    bI (evm d 176 [vR 12 r_0] h) fun x2 h1 =>
    L_M_findHeaps_5 d r_0 x2 h1 := (evs_xpd _ tx_M_findHeaps [5, 13, 73] 78 _).trans rfl
noncomputable def L_M_heaps_27 (d : Nat) (r_0 : Nat) (x_2 : Int32) (x_3 : Int32) (x_4 : Int32) (x_5 : Int32) (h : Hp) : Option Rs := evs (evm d) tx_M_heaps (27, [some (vR 12 r_0), none, some (vI x_2), some (vI x_3), some (vI x_4), some (vI x_5), none], [], h)
noncomputable def L_M_heaps_73 (d : Nat) (r_0 : Nat) (x_2 : Int32) (x_3 : Int32) (x_5 : Int32) (x_6 : Int32) (xs0 : Int32) (h : Hp) : Option Rs := evs (evm d) tx_M_heaps (73, [some (vR 12 r_0), none, some (vI x_2), some (vI x_3), none, some (vI x_5), some (vI x_6)], [vI xs0], h)
noncomputable def L_M_heaps_100 (d : Nat) (x_2 : Int32) (x_3 : Int32) (x_4 : Int32) (h : Hp) : Option Rs := evs (evm d) tx_M_heaps (100, [none, none, some (vI x_2), some (vI x_3), some (vI x_4), none, none], [], h)
set_option maxRecDepth 100000 in
theorem e_M_heaps_27 (d : Nat) (r_0 : Nat) (x_2 : Int32) (x_3 : Int32) (x_4 : Int32) (x_5 : Int32) (h : Hp) : L_M_heaps_27 d r_0 x_2 x_3 x_4 x_5 h =
    ifp (x_5 < (4 : Int32))
      (ifp (x_4 = 0)
        (L_M_heaps_100 d x_2 x_3 x_4 h)
        (ifp ((64 : Int32) = 0) none (
        ifp ((64 : Int32) = 0) none (
        bI (evm d 176 [vR 12 r_0] h) fun x2 h1 =>
        ifp (x2 < (irem x_2 (64 : Int32)))
          (L_M_heaps_73 d r_0 (x_2 / (64 : Int32)) x_3 x_5 (irem x_2 (64 : Int32)) (0 : Int32) h1)
          (bR (hR h1 r_0 32) fun r3 =>
          ifp (inb (irem x_2 (64 : Int32)) (hN h1 r3) = true) (
          ifp ((hI h1 r3 (ix (irem x_2 (64 : Int32)))) < 0)
            (L_M_heaps_73 d r_0 (x_2 / (64 : Int32)) x_3 x_5 (irem x_2 (64 : Int32)) (0 : Int32) h1)
            (L_M_heaps_73 d r_0 (x_2 / (64 : Int32)) x_3 x_5 (irem x_2 (64 : Int32)) (1 : Int32) h1)) none)))))
      (L_M_heaps_100 d x_2 x_3 x_4 h) := (evs_xpd _ tx_M_heaps [27, 73, 100] 73 _).trans rfl
set_option maxRecDepth 100000 in
theorem e_M_heaps_73 (d : Nat) (r_0 : Nat) (x_2 : Int32) (x_3 : Int32) (x_5 : Int32) (x_6 : Int32) (xs0 : Int32) (h : Hp) : L_M_heaps_73 d r_0 x_2 x_3 x_5 x_6 xs0 h =
    ifp (xs0 = 0)
      (L_M_heaps_27 d r_0 x_2 (x_3 ^^^ (0 : Int32)) xs0 (x_5 + (1 : Int32)) h)
      (bR (hR h r_0 32) fun r1 =>
      ifp (inb x_6 (hN h r1) = true) (
      L_M_heaps_27 d r_0 x_2 (x_3 ^^^ (hI h r1 (ix x_6))) xs0 (x_5 + (1 : Int32)) h) none) := (evs_xpd _ tx_M_heaps [27, 73, 100] 73 _).trans rfl
set_option maxRecDepth 100000 in
theorem e_M_heaps_100 (d : Nat) (x_2 : Int32) (x_3 : Int32) (x_4 : Int32) (h : Hp) : L_M_heaps_100 d x_2 x_3 x_4 h =
    ifp (x_4 = 0)
      (some (some (vI (-1 : Int32)), h))
      (ifp (0 < x_2)
        (some (some (vI (-1 : Int32)), h))
        (ifp (x_3 = 0)
          (some (some (vI (0 : Int32)), h))
          (some (some (vI (1 : Int32)), h)))) := (evs_xpd _ tx_M_heaps [27, 73, 100] 73 _).trans rfl
set_option maxRecDepth 100000 in
theorem e_M_heaps (d : Nat) (r_0 : Nat) (x_1 : Int32) (h : Hp) : evm (d + 1) 226 [vR 12 r_0, vI x_1] h =
    bV (evm d 225 [vR 12 r_0] (sI h r_0 0 (0 : Int32))) fun h1 =>
    ifp (x_1 < 0)
      (L_M_heaps_27 d r_0 x_1 (0 : Int32) (0 : Int32) (0 : Int32) h1)
      (L_M_heaps_27 d r_0 x_1 (0 : Int32) (1 : Int32) (0 : Int32) h1) := (evs_xpd _ tx_M_heaps [27, 73, 100] 73 _).trans rfl
set_option maxRecDepth 100000 in
theorem e_M_dust (d : Nat) (r_0 : Nat) (x_1 : Int32) (x_2 : Int32) (h : Hp) : evm (d + 1) 227 [vR 12 r_0, vI x_1, vI x_2] h =
    bI (evm d 176 [vR 12 r_0] (sI h r_0 0 (0 : Int32))) fun x2 h1 =>
    bI (evm d 154 [vI x_1, vI (1 : Int32), vI (x2 - (1 : Int32))] h1) fun x4 h3 =>
    ifp (x4 = 0)
      (some (some (vI (0 : Int32)), h3))
      (bI (evm d 154 [vI x_2, vI (0 : Int32), vI (2 : Int32)] h3) fun x6 h5 =>
      ifp (x6 = 0)
        (some (some (vI (0 : Int32)), h5))
        (bR (hR h5 r_0 17) fun r7 =>
        ifp (inb ((41 : Int32) + x_1) (hN h5 r7) = true) (
        some (some (vI (1 : Int32)), sI h5 r7 (ix ((41 : Int32) + x_1)) x_2)) none)) := (evs_xpd _ tx_M_dust [] 32 _).trans rfl
set_option maxRecDepth 100000 in
theorem e_M_fit (d : Nat) (r_0 : Nat) (h : Hp) : evm (d + 1) 228 [vR 12 r_0] h =
    bV (evm d 194 [vR 12 r_0, vI (-1 : Int32), vI (0 : Int32)] (sI (sI h r_0 0 (0 : Int32)) r_0 24 (1 : Int32))) fun h1 =>
    bR (hR (sI h1 r_0 24 (0 : Int32)) r_0 23) fun r2 =>
    bI (evm d 184 [vI (0 : Int32), vI (0 : Int32), vI (0 : Int32), vI (0 : Int32), vI (0 : Int32)] (sI h1 r_0 24 (0 : Int32))) fun x4 h3 =>
    ifp (inb x4 (hN h3 r2) = true) (
    some (some (vL (hL h3 r2 (ix x4))), h3)) none := (evs_xpd _ tx_M_fit [] 28 _).trans rfl
set_option maxRecDepth 100000 in
theorem e_M_isOpen (d : Nat) (r_0 : Nat) (x_1 : Int32) (h : Hp) : evm (d + 1) 229 [vR 12 r_0, vI x_1] h =
    bI (evm d 179 [vR 12 r_0, vI x_1] h) fun x2 h1 =>
    ifp (x2 = (1 : Int32))
      (some (some (vI (0 : Int32)), h1))
      (bR (hR h1 r_0 17) fun r3 =>
      ifp (inb ((41 : Int32) + x_1) (hN h1 r3) = true) (
      ifp ((hI h1 r3 (ix ((41 : Int32) + x_1))) = (2 : Int32))
        (some (some (vI (0 : Int32)), h1))
        (some (some (vI (1 : Int32)), h1))) none) := (evs_xpd _ tx_M_isOpen [] 22 _).trans rfl
noncomputable def L_M_findLeads_5 (d : Nat) (r_0 : Nat) (x_1 : Int32) (h : Hp) : Option Rs := evs (evm d) tx_M_findLeads (5, [some (vR 12 r_0), some (vI x_1), none, none, none, none], [], h)
noncomputable def L_M_findLeads_11 (d : Nat) (r_0 : Nat) (x_1 : Int32) (x_2 : Int32) (h : Hp) : Option Rs := evs (evm d) tx_M_findLeads (11, [some (vR 12 r_0), some (vI x_1), some (vI x_2), none, none, none], [], h)
noncomputable def L_M_findLeads_41 (d : Nat) (r_0 : Nat) (x_1 : Int32) (x_2 : Int32) (x_3 : Int32) (x_4 : Int32) (h : Hp) : Option Rs := evs (evm d) tx_M_findLeads (41, [some (vR 12 r_0), some (vI x_1), some (vI x_2), some (vI x_3), some (vI x_4), none], [], h)
noncomputable def L_M_findLeads_58 (d : Nat) (r_0 : Nat) (x_1 : Int32) (x_2 : Int32) (x_3 : Int32) (x_4 : Int32) (h : Hp) : Option Rs := evs (evm d) tx_M_findLeads (58, [some (vR 12 r_0), some (vI x_1), some (vI x_2), some (vI x_3), some (vI x_4), none], [], h)
noncomputable def L_M_findLeads_114 (d : Nat) (r_0 : Nat) (x_1 : Int32) (x_2 : Int32) (x_3 : Int32) (h : Hp) : Option Rs := evs (evm d) tx_M_findLeads (114, [some (vR 12 r_0), some (vI x_1), some (vI x_2), some (vI x_3), none, none], [], h)
set_option maxRecDepth 100000 in
theorem e_M_findLeads_5 (d : Nat) (r_0 : Nat) (x_1 : Int32) (h : Hp) : L_M_findLeads_5 d r_0 x_1 h =
    ifp (x_1 < 0)
      (some (none, h))
      (L_M_findLeads_11 d r_0 x_1 (0 : Int32) h) := (evs_xpd _ tx_M_findLeads [5, 11, 41, 58, 114] 81 _).trans rfl
set_option maxRecDepth 100000 in
theorem e_M_findLeads_11 (d : Nat) (r_0 : Nat) (x_1 : Int32) (x_2 : Int32) (h : Hp) : L_M_findLeads_11 d r_0 x_1 x_2 h =
    bI (evm d 176 [vR 12 r_0] h) fun x2 h1 =>
    ifp (x2 < x_2)
      (L_M_findLeads_5 d r_0 (x_1 + (-1 : Int32)) h1)
      (ifp (x_1 = x_2)
        (bI (evm d 229 [vR 12 r_0, vI x_1] h1) fun x4 h3 =>
        ifp (x4 = 0)
          (L_M_findLeads_41 d r_0 x_1 x_2 (0 : Int32) (0 : Int32) h3)
          (L_M_findLeads_41 d r_0 x_1 x_2 (1 : Int32) (0 : Int32) h3))
        (L_M_findLeads_41 d r_0 x_1 x_2 (0 : Int32) (0 : Int32) h1)) := (evs_xpd _ tx_M_findLeads [5, 11, 41, 58, 114] 81 _).trans rfl
set_option maxRecDepth 100000 in
theorem e_M_findLeads_41 (d : Nat) (r_0 : Nat) (x_1 : Int32) (x_2 : Int32) (x_3 : Int32) (x_4 : Int32) (h : Hp) : L_M_findLeads_41 d r_0 x_1 x_2 x_3 x_4 h =
    bI (evm d 177 [vR 12 r_0] h) fun x2 h1 =>
    ifp (x_4 < x2)
      (bI (evm d 229 [vR 12 r_0, vI x_1] h1) fun x4 h3 =>
      ifp (x4 = 0)
        (L_M_findLeads_114 d r_0 x_1 x_2 x_3 h3)
        (L_M_findLeads_58 d r_0 x_1 x_2 x_3 x_4 h3))
      (L_M_findLeads_114 d r_0 x_1 x_2 x_3 h1) := (evs_xpd _ tx_M_findLeads [5, 11, 41, 58, 114] 81 _).trans rfl
set_option maxRecDepth 100000 in
theorem e_M_findLeads_58 (d : Nat) (r_0 : Nat) (x_1 : Int32) (x_2 : Int32) (x_3 : Int32) (x_4 : Int32) (h : Hp) : L_M_findLeads_58 d r_0 x_1 x_2 x_3 x_4 h =
    bI (evm d 178 [vR 12 r_0, vI x_4] h) fun x2 h1 =>
    ifp (x_3 = 0)
      (ifp (x_2 < (x_1 + x2))
        (L_M_findLeads_41 d r_0 x_1 x_2 (0 : Int32) (x_4 + (1 : Int32)) h1)
        (bI (evm d 229 [vR 12 r_0, vI (x_1 + x2)] h1) fun x4 h3 =>
        ifp (x4 = 0)
          (L_M_findLeads_41 d r_0 x_1 x_2 (0 : Int32) (x_4 + (1 : Int32)) h3)
          (bR (hR h3 r_0 33) fun r5 =>
          ifp (inb (((41 : Int32) * (x_1 + x2)) + x_2) (hN h3 r5) = true) (
          ifp ((hI h3 r5 (ix (((41 : Int32) * (x_1 + x2)) + x_2))) = 0)
            (L_M_findLeads_41 d r_0 x_1 x_2 (0 : Int32) (x_4 + (1 : Int32)) h3)
            (L_M_findLeads_41 d r_0 x_1 x_2 (1 : Int32) (x_4 + (1 : Int32)) h3)) none)))
      (L_M_findLeads_41 d r_0 x_1 x_2 (1 : Int32) (x_4 + (1 : Int32)) h1) := (evs_xpd _ tx_M_findLeads [5, 11, 41, 58, 114] 81 _).trans rfl
set_option maxRecDepth 100000 in
theorem e_M_findLeads_114 (d : Nat) (r_0 : Nat) (x_1 : Int32) (x_2 : Int32) (x_3 : Int32) (h : Hp) : L_M_findLeads_114 d r_0 x_1 x_2 x_3 h =
    bR (hR h r_0 33) fun r1 =>
    ifp (inb (((41 : Int32) * x_1) + x_2) (hN h r1) = true) (
    bif isB x_3 then
    L_M_findLeads_11 d r_0 x_1 (x_2 + (1 : Int32)) (sI h r1 (ix (((41 : Int32) * x_1) + x_2)) x_3)
    else none) none := (evs_xpd _ tx_M_findLeads [5, 11, 41, 58, 114] 81 _).trans rfl
set_option maxRecDepth 100000 in
theorem e_M_findLeads (d : Nat) (r_0 : Nat) (h : Hp) : evm (d + 1) 230 [vR 12 r_0] h =
    bI (evm d 176 [vR 12 r_0] h) fun x2 h1 =>
    L_M_findLeads_5 d r_0 x2 h1 := (evs_xpd _ tx_M_findLeads [5, 11, 41, 58, 114] 81 _).trans rfl
set_option maxRecDepth 100000 in
theorem e_M_isTrodden (d : Nat) (r_0 : Nat) (x_1 : Int32) (h : Hp) : evm (d + 1) 231 [vR 12 r_0, vI x_1] h =
    bR (hR h r_0 17) fun r1 =>
    ifp (inb ((41 : Int32) + x_1) (hN h r1) = true) (
    ifp ((hI h r1 (ix ((41 : Int32) + x_1))) = (1 : Int32))
      (some (some (vI (1 : Int32)), h))
      (some (some (vI (0 : Int32)), h))) none := (evs_xpd _ tx_M_isTrodden [] 17 _).trans rfl
noncomputable def L_M_finds_4 (d : Nat) (r_0 : Nat) (x_1 : Int32) (x_2 : Int32) (h : Hp) : Option Rs := evs (evm d) tx_M_finds (4, [some (vR 12 r_0), some (vI x_1), some (vI x_2)], [], h)
noncomputable def L_M_finds_20 (d : Nat) (r_0 : Nat) (x_1 : Int32) (x_2 : Int32) (h : Hp) : Option Rs := evs (evm d) tx_M_finds (20, [some (vR 12 r_0), some (vI x_1), some (vI x_2)], [], h)
set_option maxRecDepth 100000 in
theorem e_M_finds_4 (d : Nat) (r_0 : Nat) (x_1 : Int32) (x_2 : Int32) (h : Hp) : L_M_finds_4 d r_0 x_1 x_2 h =
    bI (evm d 176 [vR 12 r_0] h) fun x2 h1 =>
    ifp (x_2 < x2)
      (bI (evm d 231 [vR 12 r_0, vI x_2] h1) fun x4 h3 =>
      ifp (x4 = 0)
        (L_M_finds_4 d r_0 x_1 (x_2 + (1 : Int32)) h3)
        (L_M_finds_20 d r_0 x_1 x_2 h3))
      (some (some (vI (0 : Int32)), h1)) := (evs_xpd _ tx_M_finds [4, 20] 59 _).trans rfl
set_option maxRecDepth 100000 in
theorem e_M_finds_20 (d : Nat) (r_0 : Nat) (x_1 : Int32) (x_2 : Int32) (h : Hp) : L_M_finds_20 d r_0 x_1 x_2 h =
    bR (hR h r_0 33) fun r1 =>
    ifp (inb (((41 : Int32) * x_1) + x_2) (hN h r1) = true) (
    ifp ((hI h r1 (ix (((41 : Int32) * x_1) + x_2))) = 0)
      (L_M_finds_4 d r_0 x_1 (x_2 + (1 : Int32)) h)
      (bR (hR h r_0 35) fun r2 =>
      ifp (inb x_2 (hN h r2) = true) (
      ifp ((hI h r2 (ix x_2)) = 0)
        (bR (hR h r_0 35) fun r3 =>
        ifp (inb x_2 (hN h r3) = true) (
        bR (hR (sI h r3 (ix x_2) (1 : Int32)) r_0 34) fun r4 =>
        ifp (inb x_2 (hN (sI h r3 (ix x_2) (1 : Int32)) r4) = true) (
        ifp ((hI (sI h r3 (ix x_2) (1 : Int32)) r4 (ix x_2)) < 0)
          (bR (hR (sI h r3 (ix x_2) (1 : Int32)) r_0 34) fun r5 =>
          ifp (inb x_2 (hN (sI h r3 (ix x_2) (1 : Int32)) r5) = true) (
          some (some (vI (1 : Int32)), sI (sI h r3 (ix x_2) (1 : Int32)) r5 (ix x_2) x_1)) none)
          (bR (hR (sI h r3 (ix x_2) (1 : Int32)) r_0 34) fun r6 =>
          ifp (inb x_2 (hN (sI h r3 (ix x_2) (1 : Int32)) r6) = true) (
          bI (evm d 232 [vR 12 r_0, vI (hI (sI h r3 (ix x_2) (1 : Int32)) r6 (ix x_2))] (sI h r3 (ix x_2) (1 : Int32))) fun x8 h7 =>
          ifp (x8 = 0)
            (L_M_finds_4 d r_0 x_1 (x_2 + (1 : Int32)) h7)
            (bR (hR h7 r_0 34) fun r9 =>
            ifp (inb x_2 (hN h7 r9) = true) (
            some (some (vI (1 : Int32)), sI h7 r9 (ix x_2) x_1)) none)) none)) none) none)
        (L_M_finds_4 d r_0 x_1 (x_2 + (1 : Int32)) h)) none)) none := (evs_xpd _ tx_M_finds [4, 20] 59 _).trans rfl
set_option maxRecDepth 100000 in
theorem e_M_finds (d : Nat) (r_0 : Nat) (x_1 : Int32) (h : Hp) : evm (d + 1) 232 [vR 12 r_0, vI x_1] h =
    L_M_finds_4 d r_0 x_1 (x_1 + (1 : Int32)) h := (evs_xpd _ tx_M_finds [4, 20] 59 _).trans rfl
noncomputable def L_M_fewest_13 (d : Nat) (r_0 : Nat) (x_1 : Int32) (x_2 : Int32) (h : Hp) : Option Rs := evs (evm d) tx_M_fewest (13, [some (vR 12 r_0), some (vI x_1), some (vI x_2), none], [], h)
noncomputable def L_M_fewest_57 (d : Nat) (r_0 : Nat) (x_1 : Int32) (x_2 : Int32) (h : Hp) : Option Rs := evs (evm d) tx_M_fewest (57, [some (vR 12 r_0), some (vI x_1), some (vI x_2), none], [], h)
noncomputable def L_M_fewest_71 (d : Nat) (r_0 : Nat) (x_2 : Int32) (xs0 : Int32) (xs1 : Int32) (h : Hp) : Option Rs := evs (evm d) tx_M_fewest (71, [some (vR 12 r_0), none, some (vI x_2), none], [vI xs0, vI xs1], h)
noncomputable def L_M_fewest_88 (d : Nat) (r_0 : Nat) (x_1 : Int32) (x_2 : Int32) (h : Hp) : Option Rs := evs (evm d) tx_M_fewest (88, [some (vR 12 r_0), some (vI x_1), some (vI x_2), none], [], h)
noncomputable def L_M_fewest_98 (d : Nat) (r_0 : Nat) (x_1 : Int32) (x_2 : Int32) (x_3 : Int32) (h : Hp) : Option Rs := evs (evm d) tx_M_fewest (98, [some (vR 12 r_0), some (vI x_1), some (vI x_2), some (vI x_3)], [], h)
set_option maxRecDepth 100000 in
theorem e_M_fewest_13 (d : Nat) (r_0 : Nat) (x_1 : Int32) (x_2 : Int32) (h : Hp) : L_M_fewest_13 d r_0 x_1 x_2 h =
    bI (evm d 176 [vR 12 r_0] h) fun x2 h1 =>
    ifp (x_2 < x2)
      (bI (evm d 231 [vR 12 r_0, vI x_2] h1) fun x4 h3 =>
      ifp (x4 = 0)
        (L_M_fewest_57 d r_0 x_1 x_2 h3)
        (bR (hR h3 r_0 33) fun r5 =>
        ifp (inb x_2 (hN h3 r5) = true) (
        ifp ((hI h3 r5 (ix x_2)) = 0)
          (some (some (vI (-1 : Int32)), h3))
          (bR (hR h3 r_0 33) fun r6 =>
          bI (evm d 176 [vR 12 r_0] h3) fun x8 h7 =>
          ifp (inb (((41 : Int32) * x_2) + x8) (hN h7 r6) = true) (
          ifp ((hI h7 r6 (ix (((41 : Int32) * x_2) + x8))) = 0)
            (some (some (vI (-1 : Int32)), h7))
            (L_M_fewest_57 d r_0 x_1 x_2 h7)) none)) none))
      (L_M_fewest_88 d r_0 x_1 (1 : Int32) h1) := (evs_xpd _ tx_M_fewest [13, 57, 71, 88, 98] 92 _).trans rfl
set_option maxRecDepth 100000 in
theorem e_M_fewest_57 (d : Nat) (r_0 : Nat) (x_1 : Int32) (x_2 : Int32) (h : Hp) : L_M_fewest_57 d r_0 x_1 x_2 h =
    bI (evm d 231 [vR 12 r_0, vI x_2] h) fun x2 h1 =>
    ifp (x2 = 0)
      (L_M_fewest_71 d r_0 x_2 (0 : Int32) x_1 h1)
      (L_M_fewest_71 d r_0 x_2 (1 : Int32) x_1 h1) := (evs_xpd _ tx_M_fewest [13, 57, 71, 88, 98] 92 _).trans rfl
set_option maxRecDepth 100000 in
theorem e_M_fewest_71 (d : Nat) (r_0 : Nat) (x_2 : Int32) (xs0 : Int32) (xs1 : Int32) (h : Hp) : L_M_fewest_71 d r_0 x_2 xs0 xs1 h =
    bR (hR h r_0 34) fun r1 =>
    ifp (inb x_2 (hN h r1) = true) (
    L_M_fewest_13 d r_0 (xs1 + xs0) (x_2 + (1 : Int32)) (sI h r1 (ix x_2) (-1 : Int32))) none := (evs_xpd _ tx_M_fewest [13, 57, 71, 88, 98] 92 _).trans rfl
set_option maxRecDepth 100000 in
theorem e_M_fewest_88 (d : Nat) (r_0 : Nat) (x_1 : Int32) (x_2 : Int32) (h : Hp) : L_M_fewest_88 d r_0 x_1 x_2 h =
    bI (evm d 176 [vR 12 r_0] h) fun x2 h1 =>
    ifp (x_2 < x2)
      (L_M_fewest_98 d r_0 x_1 x_2 (0 : Int32) h1)
      (some (some (vI x_1), h1)) := (evs_xpd _ tx_M_fewest [13, 57, 71, 88, 98] 92 _).trans rfl
set_option maxRecDepth 100000 in
theorem e_M_fewest_98 (d : Nat) (r_0 : Nat) (x_1 : Int32) (x_2 : Int32) (x_3 : Int32) (h : Hp) : L_M_fewest_98 d r_0 x_1 x_2 x_3 h =
    ifp ((40 : Int32) < x_3)
      (bI (evm d 231 [vR 12 r_0, vI x_2] h) fun x2 h1 =>
      ifp (x2 = 0)
        (L_M_fewest_88 d r_0 (x_1 - (0 : Int32)) (x_2 + (1 : Int32)) h1)
        (bI (evm d 232 [vR 12 r_0, vI x_2] h1) fun x4 h3 =>
        ifp (x4 = 0)
          (L_M_fewest_88 d r_0 (x_1 - (0 : Int32)) (x_2 + (1 : Int32)) h3)
          (L_M_fewest_88 d r_0 (x_1 - (1 : Int32)) (x_2 + (1 : Int32)) h3)))
      (bR (hR h r_0 35) fun r5 =>
      ifp (inb x_3 (hN h r5) = true) (
      L_M_fewest_98 d r_0 x_1 x_2 (x_3 + (1 : Int32)) (sI h r5 (ix x_3) (0 : Int32))) none) := (evs_xpd _ tx_M_fewest [13, 57, 71, 88, 98] 92 _).trans rfl
set_option maxRecDepth 100000 in
theorem e_M_fewest (d : Nat) (r_0 : Nat) (h : Hp) : evm (d + 1) 233 [vR 12 r_0] h =
    bV (evm d 230 [vR 12 r_0] (sI h r_0 0 (0 : Int32))) fun h1 =>
    L_M_fewest_13 d r_0 (0 : Int32) (1 : Int32) h1 := (evs_xpd _ tx_M_fewest [13, 57, 71, 88, 98] 92 _).trans rfl
noncomputable def L_M_still_50 (d : Nat) (x_1 : Int32) (x_2 : Int32) (x_3 : Int32) (x_4 : Int32) (x_5 : Int32) (h : Hp) : Option Rs := evs (evm d) tx_M_still (50, [none, some (vI x_1), some (vI x_2), some (vI x_3), some (vI x_4), some (vI x_5), none, none, none, none, none], [], h)
noncomputable def L_M_still_112 (d : Nat) (x_5 : Int32) (x_6 : Int32) (xs0 : Int32) (h : Hp) : Option Rs := evs (evm d) tx_M_still (112, [none, none, none, none, none, some (vI x_5), some (vI x_6), none, none, none, none], [vI xs0], h)
noncomputable def L_M_still_129 (d : Nat) (x_5 : Int32) (x_6 : Int32) (x_7 : Int32) (x_8 : Int32) (x_9 : Int32) (h : Hp) : Option Rs := evs (evm d) tx_M_still (129, [none, none, none, none, none, some (vI x_5), some (vI x_6), some (vI x_7), some (vI x_8), some (vI x_9), none], [], h)
set_option maxRecDepth 100000 in
theorem e_M_still_50 (d : Nat) (x_1 : Int32) (x_2 : Int32) (x_3 : Int32) (x_4 : Int32) (x_5 : Int32) (h : Hp) : L_M_still_50 d x_1 x_2 x_3 x_4 x_5 h =
    bI (evm d 154 [vI x_5, vI (0 : Int32), vI (1 : Int32)] h) fun x2 h1 =>
    ifp (x2 = 0)
      (some (some (vI (-1 : Int32)), h1))
      (ifp (x_2 = x_4)
        (some (some (vI (-1 : Int32)), h1))
        (ifp ((x_4 - x_2) < 0)
          (ifp ((x_4 - x_2) < 0)
            (L_M_still_112 d x_5 (-((x_1 * x_4) - (x_2 * x_3))) (-(x_4 - x_2)) h1)
            (L_M_still_112 d x_5 (-((x_1 * x_4) - (x_2 * x_3))) (x_4 - x_2) h1))
          (ifp ((x_4 - x_2) < 0)
            (L_M_still_112 d x_5 ((x_1 * x_4) - (x_2 * x_3)) (-(x_4 - x_2)) h1)
            (L_M_still_112 d x_5 ((x_1 * x_4) - (x_2 * x_3)) (x_4 - x_2) h1)))) := (evs_xpd _ tx_M_still [50, 112, 129] 93 _).trans rfl
set_option maxRecDepth 100000 in
theorem e_M_still_112 (d : Nat) (x_5 : Int32) (x_6 : Int32) (xs0 : Int32) (h : Hp) : L_M_still_112 d x_5 x_6 xs0 h =
    ifp (0 < x_6)
      (L_M_still_129 d x_5 x_6 xs0 x_6 xs0 h)
      (some (some (vI (-1 : Int32)), h)) := (evs_xpd _ tx_M_still [50, 112, 129] 93 _).trans rfl
set_option maxRecDepth 100000 in
theorem e_M_still_129 (d : Nat) (x_5 : Int32) (x_6 : Int32) (x_7 : Int32) (x_8 : Int32) (x_9 : Int32) (h : Hp) : L_M_still_129 d x_5 x_6 x_7 x_8 x_9 h =
    ifp (x_9 = 0)
      (ifp (x_5 = 0)
        (ifp (x_8 = 0) none (
        some (some (vI (x_6 / x_8)), h)))
        (ifp (x_8 = 0) none (
        some (some (vI (x_7 / x_8)), h))))
      (ifp (x_9 = 0) none (
      L_M_still_129 d x_5 x_6 x_7 x_9 (irem x_8 x_9) h)) := (evs_xpd _ tx_M_still [50, 112, 129] 93 _).trans rfl
set_option maxRecDepth 100000 in
theorem e_M_still (d : Nat) (r_0 : Nat) (x_1 : Int32) (x_2 : Int32) (x_3 : Int32) (x_4 : Int32) (x_5 : Int32) (h : Hp) : evm (d + 1) 234 [vR 12 r_0, vI x_1, vI x_2, vI x_3, vI x_4, vI x_5] h =
    bI (evm d 154 [vI x_1, vI (1 : Int32), vI (999 : Int32)] (sI h r_0 0 (0 : Int32))) fun x2 h1 =>
    ifp (x2 = 0)
      (some (some (vI (-1 : Int32)), h1))
      (bI (evm d 154 [vI x_2, vI (1 : Int32), vI (999 : Int32)] h1) fun x4 h3 =>
      ifp (x4 = 0)
        (some (some (vI (-1 : Int32)), h3))
        (bI (evm d 154 [vI x_3, vI (1 : Int32), vI (999 : Int32)] h3) fun x6 h5 =>
        ifp (x6 = 0)
          (some (some (vI (-1 : Int32)), h5))
          (bI (evm d 154 [vI x_4, vI (1 : Int32), vI (999 : Int32)] h5) fun x8 h7 =>
          ifp (x8 = 0)
            (some (some (vI (-1 : Int32)), h7))
            (L_M_still_50 d x_1 x_2 x_3 x_4 x_5 h7)))) := (evs_xpd _ tx_M_still [50, 112, 129] 93 _).trans rfl
set_option maxRecDepth 100000 in
theorem e_M_draw (d : Nat) (r_0 : Nat) (x_1 : Int32) (h : Hp) : evm (d + 1) 235 [vR 12 r_0, vI x_1] h =
    ifp ((2147483648 : Int64) = 0) none (
    ifp ((65536 : Int64) = 0) none (
    ifp (x_1.toInt64 = 0) none (
    some (some (vI ((lrem ((hL (sL h r_0 36 (lrem (((hL h r_0 36) * (1103515245 : Int64)) + (12345 : Int64)) (2147483648 : Int64))) r_0 36) / (65536 : Int64)) x_1.toInt64).toInt32)), sL h r_0 36 (lrem (((hL h r_0 36) * (1103515245 : Int64)) + (12345 : Int64)) (2147483648 : Int64)))))) := (evs_xpd _ tx_M_draw [] 24 _).trans rfl
noncomputable def L_M_fair_27 (d : Nat) (r_0 : Nat) (x_1 : Int32) (x_2 : Int32) (h : Hp) : Option Rs := evs (evm d) tx_M_fair (27, [some (vR 12 r_0), some (vI x_1), some (vI x_2), none, none, none, none], [], h)
set_option maxRecDepth 100000 in
theorem e_M_fair_27 (d : Nat) (r_0 : Nat) (x_1 : Int32) (x_2 : Int32) (h : Hp) : L_M_fair_27 d r_0 x_1 x_2 h =
    bV (evm d 183 [vR 12 r_0] h) fun h1 =>
    bV (evm d 194 [vR 12 r_0, vI (-1 : Int32), vI (0 : Int32)] h1) fun h2 =>
    bR (hR h2 r_0 23) fun r3 =>
    bI (evm d 197 [vR 12 r_0] h2) fun x5 h4 =>
    ifp (inb x5 (hN h4 r3) = true) (
    ifp ((lg_cmp (hL h4 r3 (ix x5)) (0 : Int64)) = 0)
      (some (some (vI (-1 : Int32)), h4))
      (bI (evm d 235 [vR 12 r_0, vI (32768 : Int32)] (sL h4 r_0 36 x_1.toInt64)) fun x7 h6 =>
      bI (evm d 235 [vR 12 r_0, vI (32768 : Int32)] h6) fun x9 h8 =>
      bI (evm d 235 [vR 12 r_0, vI (32768 : Int32)] h8) fun x11 h10 =>
      ifp ((hL h4 r3 (ix x5)) = 0) none (
      bI (evm d 209 [vR 12 r_0, vL (lrem ((((x7.toInt64 * (32768 : Int64)) + x9.toInt64) * (32768 : Int64)) + x11.toInt64) (hL h4 r3 (ix x5))), vI x_2] h10) fun x13 h12 =>
      some (some (vI x13), h12)))) none := (evs_xpd _ tx_M_fair [27] 72 _).trans rfl
set_option maxRecDepth 100000 in
theorem e_M_fair (d : Nat) (r_0 : Nat) (x_1 : Int32) (x_2 : Int32) (h : Hp) : evm (d + 1) 236 [vR 12 r_0, vI x_1, vI x_2] h =
    bI (evm d 154 [vI x_1, vI (0 : Int32), vI (9999 : Int32)] (sI (sI h r_0 0 (0 : Int32)) r_0 24 (0 : Int32))) fun x2 h1 =>
    ifp (x2 = 0)
      (some (some (vI (-1 : Int32)), h1))
      (ifp (x_2 < 0)
        (some (some (vI (-1 : Int32)), h1))
        (L_M_fair_27 d r_0 x_1 x_2 h1)) := (evs_xpd _ tx_M_fair [27] 72 _).trans rfl
noncomputable def L_M_climb_55 (d : Nat) (r_0 : Nat) (x_2 : Int32) (x_3 : Int32) (x_4 : Int32) (x_5 : Int32) (x_6 : Int32) (x_7 : Int32) (x_8 : Int32) (h : Hp) : Option Rs := evs (evm d) tx_M_climb (55, [some (vR 12 r_0), none, some (vI x_2), some (vI x_3), some (vI x_4), some (vI x_5), some (vI x_6), some (vI x_7), some (vI x_8), none, none], [], h)
noncomputable def L_M_climb_66 (d : Nat) (r_0 : Nat) (x_2 : Int32) (x_3 : Int32) (x_4 : Int32) (x_5 : Int32) (x_6 : Int32) (x_7 : Int32) (x_8 : Int32) (x_9 : Int32) (h : Hp) : Option Rs := evs (evm d) tx_M_climb (66, [some (vR 12 r_0), none, some (vI x_2), some (vI x_3), some (vI x_4), some (vI x_5), some (vI x_6), some (vI x_7), some (vI x_8), some (vI x_9), none], [], h)
noncomputable def L_M_climb_117 (d : Nat) (r_0 : Nat) (x_2 : Int32) (x_3 : Int32) (x_4 : Int32) (x_5 : Int32) (x_6 : Int32) (x_7 : Int32) (x_8 : Int32) (x_9 : Int32) (x_10 : Int32) (h : Hp) : Option Rs := evs (evm d) tx_M_climb (117, [some (vR 12 r_0), none, some (vI x_2), some (vI x_3), some (vI x_4), some (vI x_5), some (vI x_6), some (vI x_7), some (vI x_8), some (vI x_9), some (vI x_10)], [], h)
noncomputable def L_M_climb_203 (d : Nat) (r_0 : Nat) (x_2 : Int32) (x_3 : Int32) (x_4 : Int32) (x_6 : Int32) (x_7 : Int32) (x_8 : Int32) (x_10 : Int32) (xs0 : Int32) (xs1 : Int32) (h : Hp) : Option Rs := evs (evm d) tx_M_climb (203, [some (vR 12 r_0), none, some (vI x_2), some (vI x_3), some (vI x_4), none, some (vI x_6), some (vI x_7), some (vI x_8), none, some (vI x_10)], [vI xs0, vI xs1], h)
set_option maxRecDepth 100000 in
theorem e_M_climb_55 (d : Nat) (r_0 : Nat) (x_2 : Int32) (x_3 : Int32) (x_4 : Int32) (x_5 : Int32) (x_6 : Int32) (x_7 : Int32) (x_8 : Int32) (h : Hp) : L_M_climb_55 d r_0 x_2 x_3 x_4 x_5 x_6 x_7 x_8 h =
    ifp (0 < x_8)
      (L_M_climb_66 d r_0 x_2 x_3 x_4 x_5 x_6 x_7 (0 : Int32) (0 : Int32) h)
      (ifp (x_2 = 0)
        (some (some (vI x_3), h))
        (some (some (vI x_7), h))) := (evs_xpd _ tx_M_climb [55, 66, 117, 203] 139 _).trans rfl
set_option maxRecDepth 100000 in
theorem e_M_climb_66 (d : Nat) (r_0 : Nat) (x_2 : Int32) (x_3 : Int32) (x_4 : Int32) (x_5 : Int32) (x_6 : Int32) (x_7 : Int32) (x_8 : Int32) (x_9 : Int32) (h : Hp) : L_M_climb_66 d r_0 x_2 x_3 x_4 x_5 x_6 x_7 x_8 x_9 h =
    bI (evm d 177 [vR 12 r_0] h) fun x2 h1 =>
    ifp (x_9 < x2)
      (bI (evm d 214 [vR 12 r_0, vI x_3, vI x_4, vI x_5, vI x_6, vI x_7, vI x_9] h1) fun x6 h5 =>
      L_M_climb_66 d r_0 x_2 x_3 x_4 x_5 x_6 x_7 (x_8 + x6) (x_9 + (1 : Int32)) h5)
      (ifp (0 < x_8)
        (bI (evm d 235 [vR 12 r_0, vI x_8] h1) fun x4 h3 =>
        L_M_climb_117 d r_0 x_2 x_3 x_4 x_5 x_6 x_7 x_8 x4 (0 : Int32) h3)
        (L_M_climb_55 d r_0 x_2 x_3 x_4 x_5 x_6 x_7 x_8 h1)) := (evs_xpd _ tx_M_climb [55, 66, 117, 203] 139 _).trans rfl
set_option maxRecDepth 100000 in
theorem e_M_climb_117 (d : Nat) (r_0 : Nat) (x_2 : Int32) (x_3 : Int32) (x_4 : Int32) (x_5 : Int32) (x_6 : Int32) (x_7 : Int32) (x_8 : Int32) (x_9 : Int32) (x_10 : Int32) (h : Hp) : L_M_climb_117 d r_0 x_2 x_3 x_4 x_5 x_6 x_7 x_8 x_9 x_10 h =
    bI (evm d 214 [vR 12 r_0, vI x_3, vI x_4, vI x_5, vI x_6, vI x_7, vI x_10] h) fun x2 h1 =>
    ifp (x_9 < x2)
      (bI (evm d 178 [vR 12 r_0, vI x_10] h1) fun x4 h3 =>
      bI (evm d 179 [vR 12 r_0, vI (x_3 + x4)] h3) fun x6 h5 =>
      ifp (x6 = (2 : Int32))
        (bR (hR h5 r_0 10) fun r7 =>
        ifp (inb (1 : Int32) (hN h5 r7) = true) (
        ifp ((hI h5 r7 (ix (1 : Int32))) < 0)
          (L_M_climb_203 d r_0 x_2 (x_3 + x4) (x_10 + (1 : Int32)) x_6 x_7 x_8 x_10 (0 : Int32) x_5 h5)
          (L_M_climb_203 d r_0 x_2 (x_3 + x4) (x_10 + (1 : Int32)) x_6 x_7 x_8 x_10 (1 : Int32) x_5 h5)) none)
        (L_M_climb_203 d r_0 x_2 (x_3 + x4) (x_10 + (1 : Int32)) x_6 x_7 x_8 x_10 (0 : Int32) x_5 h5))
      (bI (evm d 214 [vR 12 r_0, vI x_3, vI x_4, vI x_5, vI x_6, vI x_7, vI x_10] h1) fun x9 h8 =>
      L_M_climb_117 d r_0 x_2 x_3 x_4 x_5 x_6 x_7 x_8 (x_9 - x9) (x_10 + (1 : Int32)) h8) := (evs_xpd _ tx_M_climb [55, 66, 117, 203] 139 _).trans rfl
set_option maxRecDepth 100000 in
theorem e_M_climb_203 (d : Nat) (r_0 : Nat) (x_2 : Int32) (x_3 : Int32) (x_4 : Int32) (x_6 : Int32) (x_7 : Int32) (x_8 : Int32) (x_10 : Int32) (xs0 : Int32) (xs1 : Int32) (h : Hp) : L_M_climb_203 d r_0 x_2 x_3 x_4 x_6 x_7 x_8 x_10 xs0 xs1 h =
    bI (evm d 178 [vR 12 r_0, vI x_10] h) fun x2 h1 =>
    bI (evm d 182 [vR 12 r_0, vI x2] h1) fun x4 h3 =>
    ifp (x4 = 0)
      (L_M_climb_55 d r_0 x_2 x_3 x_4 (xs1 + xs0) (x_6 + (0 : Int32)) (x_7 + (1 : Int32)) x_8 h3)
      (L_M_climb_55 d r_0 x_2 x_3 x_4 (xs1 + xs0) (x_6 + (1 : Int32)) (x_7 + (1 : Int32)) x_8 h3) := (evs_xpd _ tx_M_climb [55, 66, 117, 203] 139 _).trans rfl
set_option maxRecDepth 100000 in
theorem e_M_climb (d : Nat) (r_0 : Nat) (x_1 : Int32) (x_2 : Int32) (h : Hp) : evm (d + 1) 237 [vR 12 r_0, vI x_1, vI x_2] h =
    bI (evm d 154 [vI x_1, vI (0 : Int32), vI (9999 : Int32)] (sI (sI h r_0 0 (0 : Int32)) r_0 24 (0 : Int32))) fun x2 h1 =>
    ifp (x2 = 0)
      (some (some (vI (-1 : Int32)), h1))
      (bI (evm d 154 [vI x_2, vI (0 : Int32), vI (1 : Int32)] h1) fun x4 h3 =>
      ifp (x4 = 0)
        (some (some (vI (-1 : Int32)), h3))
        (L_M_climb_55 d r_0 x_2 (0 : Int32) (0 : Int32) (0 : Int32) (0 : Int32) (0 : Int32) (1 : Int32) (sL h3 r_0 36 x_1.toInt64))) := (evs_xpd _ tx_M_climb [55, 66, 117, 203] 139 _).trans rfl
noncomputable def L_M_mark_29 (d : Nat) (r_0 : Nat) (x_1 : Int32) (x_2 : Int32) (h : Hp) : Option Rs := evs (evm d) tx_M_mark (29, [some (vR 12 r_0), some (vI x_1), some (vI x_2), none, none, none], [], h)
noncomputable def L_M_mark_47 (d : Nat) (r_0 : Nat) (x_1 : Int32) (x_2 : Int32) (xs0 : Int32) (h : Hp) : Option Rs := evs (evm d) tx_M_mark (47, [some (vR 12 r_0), some (vI x_1), some (vI x_2), none, none, none], [vI xs0], h)
noncomputable def L_M_mark_64 (d : Nat) (r_0 : Nat) (x_3 : Int32) (x_4 : Int32) (x_5 : Int32) (h : Hp) : Option Rs := evs (evm d) tx_M_mark (64, [some (vR 12 r_0), none, none, some (vI x_3), some (vI x_4), some (vI x_5)], [], h)
set_option maxRecDepth 100000 in
theorem e_M_mark_29 (d : Nat) (r_0 : Nat) (x_1 : Int32) (x_2 : Int32) (h : Hp) : L_M_mark_29 d r_0 x_1 x_2 h =
    bR (hR h r_0 18) fun r1 =>
    ifp (inb x_1 (hN h r1) = true) (
    ifp (x_2 = 0)
      (L_M_mark_47 d r_0 x_1 x_2 (0 : Int32) (sI h r1 (ix x_1) (1 : Int32)))
      (L_M_mark_47 d r_0 x_1 x_2 ((1 : Int32) + x_1) (sI h r1 (ix x_1) (1 : Int32)))) none := (evs_xpd _ tx_M_mark [29, 47, 64] 68 _).trans rfl
set_option maxRecDepth 100000 in
theorem e_M_mark_47 (d : Nat) (r_0 : Nat) (x_1 : Int32) (x_2 : Int32) (xs0 : Int32) (h : Hp) : L_M_mark_47 d r_0 x_1 x_2 xs0 h =
    ifp (x_2 = 0)
      (L_M_mark_64 d r_0 xs0 ((1 : Int32) + x_1) (0 : Int32) h)
      (L_M_mark_64 d r_0 xs0 (0 : Int32) (0 : Int32) h) := (evs_xpd _ tx_M_mark [29, 47, 64] 68 _).trans rfl
set_option maxRecDepth 100000 in
theorem e_M_mark_64 (d : Nat) (r_0 : Nat) (x_3 : Int32) (x_4 : Int32) (x_5 : Int32) (h : Hp) : L_M_mark_64 d r_0 x_3 x_4 x_5 h =
    ifp (x_5 < (84 : Int32))
      (bR (hR h r_0 17) fun r1 =>
      bR (hR h r_0 17) fun r2 =>
      ifp (inb (((84 : Int32) * x_3) + x_5) (hN h r2) = true) (
      ifp (inb (((84 : Int32) * x_4) + x_5) (hN h r1) = true) (
      L_M_mark_64 d r_0 x_3 x_4 (x_5 + (1 : Int32)) (sI h r1 (ix (((84 : Int32) * x_4) + x_5)) (hI h r2 (ix (((84 : Int32) * x_3) + x_5))))) none) none)
      (some (some (vI (1 : Int32)), h)) := (evs_xpd _ tx_M_mark [29, 47, 64] 68 _).trans rfl
set_option maxRecDepth 100000 in
theorem e_M_mark (d : Nat) (r_0 : Nat) (x_1 : Int32) (x_2 : Int32) (h : Hp) : evm (d + 1) 238 [vR 12 r_0, vI x_1, vI x_2] h =
    bI (evm d 154 [vI x_1, vI (0 : Int32), vI (3 : Int32)] (sI h r_0 0 (0 : Int32))) fun x2 h1 =>
    ifp (x2 = 0)
      (some (some (vI (0 : Int32)), h1))
      (ifp (x_2 = 0)
        (L_M_mark_29 d r_0 x_1 x_2 h1)
        (bR (hR h1 r_0 18) fun r3 =>
        ifp (inb x_1 (hN h1 r3) = true) (
        ifp ((hI h1 r3 (ix x_1)) = 0)
          (some (some (vI (0 : Int32)), h1))
          (L_M_mark_29 d r_0 x_1 x_2 h1)) none)) := (evs_xpd _ tx_M_mark [29, 47, 64] 68 _).trans rfl
set_option maxRecDepth 100000 in
theorem e_M_count (d : Nat) (r_0 : Nat) (x_1 : Int32) (h : Hp) : evm (d + 1) 239 [vR 12 r_0, vI x_1] h =
    bV (evm d 183 [vR 12 r_0] (sI h r_0 0 (0 : Int32))) fun h1 =>
    ifp (x_1 = (0 : Int32))
      (bI (evm d 176 [vR 12 r_0] h1) fun x3 h2 =>
      some (some (vI x3), h2))
      (ifp (x_1 = ((0 : Int32) + 1))
      (some (some (vI (hI h1 r_0 19)), h1))
      (ifp (x_1 = (((0 : Int32) + 1) + 1))
      (bI (evm d 180 [vR 12 r_0] h1) fun x5 h4 =>
      some (some (vI x5), h4))
      (ifp (x_1 = ((((0 : Int32) + 1) + 1) + 1))
      (some (some (vI (hI h1 r_0 21)), h1))
      (ifp (x_1 = (((((0 : Int32) + 1) + 1) + 1) + 1))
      (some (some (vI (hI h1 r_0 22)), h1))
      (ifp (x_1 = ((((((0 : Int32) + 1) + 1) + 1) + 1) + 1))
      (bI (evm d 177 [vR 12 r_0] h1) fun x7 h6 =>
      some (some (vI x7), h6))
      (ifp (x_1 = (((((((0 : Int32) + 1) + 1) + 1) + 1) + 1) + 1))
      (bR (hR h1 r_0 10) fun r8 =>
      ifp (inb (15 : Int32) (hN h1 r8) = true) (
      some (some (vI (hI h1 r8 (ix (15 : Int32)))), h1)) none)
      (ifp (x_1 = ((((((((0 : Int32) + 1) + 1) + 1) + 1) + 1) + 1) + 1))
      (some (some (vI (hI h1 r_0 2)), h1))
      (
      some (some (vI (-1 : Int32)), h1))))))))) := (evs_xpd _ tx_M_count [] 40 _).trans rfl
end
section
/-! Tables for the soundness of the pure machine (by program: wip/whole/facts.py). -/
def oNm : List String := ["StairWays$Climber", "StairWays$Mark", "StairWays$Mood", "StairWays$Pair", "StairWays$Rests", "StairWays$Stair", "StairWays$StairReader", "StairWays$Sweep", "StairWays$Tape", "StairWays$Throng", "StairWays$Ways", "StairWays", "StairWaysModel", "StairWaysLaw", "java/lang/Math", "java/lang/String", "java/lang/StringLatin1", "jdk/internal/util/Preconditions"]
def ownOf (k : Nat) : String := oNm.getD k ""
def cNm : List String := ["StairWays$Climber", "StairWays$Mark", "StairWays$Mood", "StairWays$Pair", "StairWays$Rests", "StairWays$Stair", "StairWays$StairReader", "StairWays$Sweep", "StairWays$Tape", "StairWays$Throng", "StairWays$Ways", "StairWays", "StairWaysModel", "java/util/NoSuchElementException"]
def cTb : List (List (String × String × String × Bool)) := [[("StairWays$Climber", "strides", "[I", true), ("StairWays$Climber", "at", "I", false), ("StairWays$Climber", "paces", "I", false), ("StairWays$Climber", "last", "I", false), ("StairWays$Climber", "creaks", "I", false), ("StairWays$Climber", "greats", "I", false)],
  [("StairWays$Mark", "climber", "LStairWays$Climber;", true), ("StairWays$Mark", "dusts", "[I", true), ("StairWays$Mark", "laid", "Z", false)],
  [("StairWays$Mood", "deeds", "[I", true), ("StairWays$Mood", "pile", "[I", true), ("StairWays$Mood", "length", "I", false)],
  [("StairWays$Pair", "met", "[J", false)],
  [("StairWays$Rests", "first", "[J", true), ("StairWays$Rests", "power", "[J", true), ("StairWays$Rests", "wide", "[J", true)],
  [("StairWays$Stair", "strides", "[I", true), ("StairWays$Stair", "places", "[I", true), ("StairWays$Stair", "kinds", "[I", true), ("StairWays$Stair", "barredBehind", "[I", true), ("StairWays$Stair", "heapOf", "[I", true), ("StairWays$Stair", "farthest", "[I", true), ("StairWays$Stair", "mood", "LStairWays$Mood;", true), ("StairWays$Stair", "top", "I", false), ("StairWays$Stair", "kindsOfStride", "I", false), ("StairWays$Stair", "strideBits", "I", false), ("StairWays$Stair", "creakLimit", "I", false), ("StairWays$Stair", "bars", "I", false), ("StairWays$Stair", "foot", "I", false), ("StairWays$Stair", "least", "I", false), ("StairWays$Stair", "most", "I", false), ("StairWays$Stair", "great", "I", false), ("StairWays$Stair", "greatLimit", "I", false)],
  [("StairWays$StairReader", "tape", "LStairWays$Tape;", true), ("StairWays$StairReader", "linesTold", "I", false), ("StairWays$StairReader", "fault", "I", false), ("StairWays$StairReader", "number", "I", false)],
  [("StairWays$Sweep", "reached", "[J", true), ("StairWays$Sweep", "ahead", "[I", true), ("StairWays$Sweep", "tried", "J", false)],
  [("StairWays$Tape", "signs", "[C", true), ("StairWays$Tape", "length", "I", false), ("StairWays$Tape", "kind", "I", false), ("StairWays$Tape", "place", "I", false), ("StairWays$Tape", "end", "I", false), ("StairWays$Tape", "value", "I", false)],
  [("StairWays$Throng", "trod", "[J", true), ("StairWays$Throng", "paces", "J", false), ("StairWays$Throng", "one", "LStairWays$Climber;", true), ("StairWays$Throng", "moods", "[I", true), ("StairWays$Throng", "weights", "[I", true), ("StairWays$Throng", "parts", "[J", true), ("StairWays$Throng", "groups", "[J", false), ("StairWays$Throng", "known", "J", false), ("StairWays$Throng", "lastKinds", "I", false), ("StairWays$Throng", "creakKinds", "I", false), ("StairWays$Throng", "greatKinds", "I", false)],
  [("StairWays$Ways", "lastKindOf", "[I", true), ("StairWays$Ways", "dusts", "[I", true), ("StairWays$Ways", "answers", "[J", false), ("StairWays$Ways", "purpose", "I", false), ("StairWays$Ways", "least", "I", false), ("StairWays$Ways", "most", "I", false), ("StairWays$Ways", "pacesMatter", "Z", false), ("StairWays$Ways", "footMatters", "Z", false), ("StairWays$Ways", "lastKinds", "I", false), ("StairWays$Ways", "creakKinds", "I", false), ("StairWays$Ways", "greatKinds", "I", false)],
  [("StairWays", "reader", "LStairWays$StairReader;", true), ("StairWays", "hand", "LStairWays$Climber;", true), ("StairWays", "ghost", "LStairWays$Climber;", true), ("StairWays", "ways", "LStairWays$Ways;", true), ("StairWays", "throng", "LStairWays$Throng;", true), ("StairWays", "sweep", "LStairWays$Sweep;", true), ("StairWays", "pair", "LStairWays$Pair;", true), ("StairWays", "rests", "LStairWays$Rests;", true), ("StairWays", "marks", "[LStairWays$Mark;", true), ("StairWays", "dusts", "[I", true), ("StairWays", "weights", "[I", true), ("StairWays", "told", "LStairWays$Stair;", false), ("StairWays", "spare", "LStairWays$Stair;", false), ("StairWays", "drawing", "J", false)],
  [("StairWaysModel", "thrown", "I", false), ("StairWaysModel", "tape", "[I", true), ("StairWaysModel", "taped", "I", false), ("StairWaysModel", "size", "I", false), ("StairWaysModel", "sort", "[I", true), ("StairWaysModel", "place", "[I", true), ("StairWaysModel", "value", "[J", true), ("StairWaysModel", "at", "I", false), ("StairWaysModel", "fault", "I", false), ("StairWaysModel", "words", "[J", true), ("StairWaysModel", "stairs", "[I", true), ("StairWaysModel", "op", "[I", true), ("StairWaysModel", "arg", "[I", true), ("StairWaysModel", "codes", "I", false), ("StairWaysModel", "told", "I", false), ("StairWaysModel", "facts", "[I", true), ("StairWaysModel", "pile", "[I", true), ("StairWaysModel", "state", "[I", true), ("StairWaysModel", "isMarked", "[Z", true), ("StairWaysModel", "now", "I", false), ("StairWaysModel", "last", "I", false), ("StairWaysModel", "creaks", "I", false), ("StairWaysModel", "greats", "I", false), ("StairWaysModel", "table", "[J", true), ("StairWaysModel", "byDust", "Z", false), ("StairWaysModel", "power", "[J", true), ("StairWaysModel", "result", "[J", true), ("StairWaysModel", "product", "[J", true), ("StairWaysModel", "copy", "[J", true), ("StairWaysModel", "treads", "[J", true), ("StairWaysModel", "takenAll", "J", false), ("StairWaysModel", "pairs", "[J", true), ("StairWaysModel", "heapOf", "[I", true), ("StairWaysModel", "leads", "[Z", true), ("StairWaysModel", "nextOf", "[I", true), ("StairWaysModel", "tried", "[Z", true), ("StairWaysModel", "g", "J", false)]]
def cTy : List (List FieldType) := [[.array .int, .int, .int, .int, .int, .int], [.object "StairWays$Climber", .array .int, .boolean], [.array .int, .array .int, .int], [.array .long], [.array .long, .array .long, .array .long], [.array .int, .array .int, .array .int, .array .int, .array .int, .array .int, .object "StairWays$Mood", .int, .int, .int, .int, .int, .int, .int, .int, .int, .int], [.object "StairWays$Tape", .int, .int, .int], [.array .long, .array .int, .long], [.array .char, .int, .int, .int, .int, .int], [.array .long, .long, .object "StairWays$Climber", .array .int, .array .int, .array .long, .array .long, .long, .int, .int, .int], [.array .int, .array .int, .array .long, .int, .int, .int, .boolean, .boolean, .int, .int, .int], [.object "StairWays$StairReader", .object "StairWays$Climber", .object "StairWays$Climber", .object "StairWays$Ways", .object "StairWays$Throng", .object "StairWays$Sweep", .object "StairWays$Pair", .object "StairWays$Rests", .array (.object "StairWays$Mark"), .array .int, .array .int, .object "StairWays$Stair", .object "StairWays$Stair", .long], [.int, .array .int, .int, .int, .array .int, .array .int, .array .long, .int, .int, .array .long, .array .int, .array .int, .array .int, .int, .int, .array .int, .array .int, .array .int, .array .boolean, .int, .int, .int, .int, .array .long, .boolean, .array .long, .array .long, .array .long, .array .long, .array .long, .long, .array .long, .array .int, .array .boolean, .array .int, .array .boolean, .long]]
def fkl : List (List Nat) := [[20, 100, 100, 100, 100, 100], [0, 20, 101], [20, 20, 100], [21], [21, 21, 21], [20, 20, 20, 20, 20, 20, 2, 100, 100, 100, 100, 100, 100, 100, 100, 100, 100], [8, 100, 100, 100], [21, 20, 102], [22, 100, 100, 100, 100, 100], [21, 102, 0, 20, 20, 21, 21, 102, 100, 100, 100], [20, 20, 21, 100, 100, 100, 101, 101, 100, 100, 100], [6, 0, 0, 10, 9, 7, 3, 4, 24, 20, 20, 5, 5, 102], [100, 20, 100, 100, 20, 20, 21, 100, 100, 21, 20, 20, 20, 100, 100, 20, 20, 20, 23, 100, 100, 100, 100, 21, 101, 21, 21, 21, 21, 21, 102, 21, 20, 23, 20, 23, 102]]
def cT (ci : Nat) : u_T := fun k => (cTb.getD ci []).getD k ("", "", "", false)
def cF (ci : Nat) : Nat := (cTb.getD ci []).length
def cY (ci k : Nat) : FieldType := (cTy.getD ci []).getD k .int
def fK (ci k : Nat) : Nat := (fkl.getD ci []).getD k 100
def cC (ci : Nat) : String := cNm.getD ci ""
def vcl : List vw_C := (List.range 14).map (fun ci => (cC ci, cT ci, cF ci))
def tyOk (c : Nat) (t : FieldType) : Bool := match t with
  | .int => c == 100
  | .boolean => c == 101
  | .long => c == 102
  | .array _ => decide (c < 25)
  | .object _ => decide (c < 13)
  | _ => false
def layP : List (Nat × Nat × Nat) := [(0, 0, 111), (0, 1, 113), (0, 2, 115), (0, 3, 117), (0, 4, 119), (0, 5, 121), (1, 0, 266), (1, 1, 268), (1, 2, 270), (2, 0, 289), (2, 1, 291), (2, 2, 293), (3, 0, 233), (4, 0, 245), (4, 1, 247), (4, 2, 249), (5, 0, 362), (5, 1, 364), (5, 2, 366), (5, 3, 368), (5, 4, 370), (5, 5, 372), (5, 6, 374), (5, 7, 376), (5, 8, 378), (5, 9, 380), (5, 10, 382), (5, 11, 384), (5, 12, 386), (5, 13, 388), (5, 14, 390), (5, 15, 392), (5, 16, 394), (6, 0, 75), (6, 1, 77), (6, 2, 79), (6, 3, 81), (7, 0, 219), (7, 1, 221), (7, 2, 223), (8, 0, 56), (8, 1, 58), (8, 2, 60), (8, 3, 62), (8, 4, 64), (8, 5, 66), (9, 0, 187), (9, 1, 189), (9, 2, 191), (9, 3, 193), (9, 4, 195), (9, 5, 197), (9, 6, 199), (9, 7, 201), (9, 8, 203), (9, 9, 205), (9, 10, 207), (10, 0, 142), (10, 1, 144), (10, 2, 146), (10, 3, 148), (10, 4, 150), (10, 5, 152), (10, 6, 154), (10, 7, 156), (10, 8, 158), (10, 9, 160), (10, 10, 162), (11, 0, 435), (11, 1, 437), (11, 2, 439), (11, 3, 441), (11, 4, 443), (11, 5, 445), (11, 6, 447), (11, 7, 449), (11, 8, 451), (11, 9, 453), (11, 10, 455), (11, 11, 457), (11, 12, 459), (11, 13, 461), (12, 0, 1257), (12, 1, 1259), (12, 2, 1261), (12, 3, 1263), (12, 4, 1265), (12, 5, 1267), (12, 6, 1269), (12, 7, 1271), (12, 8, 1273), (12, 9, 1275), (12, 10, 1277), (12, 11, 1279), (12, 12, 1281), (12, 13, 1283), (12, 14, 1285), (12, 15, 1287), (12, 16, 1289), (12, 17, 1291), (12, 18, 1293), (12, 19, 1295), (12, 20, 1297), (12, 21, 1299), (12, 22, 1301), (12, 23, 1303), (12, 24, 1305), (12, 25, 1307), (12, 26, 1309), (12, 27, 1311), (12, 28, 1313), (12, 29, 1315), (12, 30, 1317), (12, 31, 1319), (12, 32, 1321), (12, 33, 1323), (12, 34, 1325), (12, 35, 1327), (12, 36, 1329)]
def flk : List (Nat × Nat × Nat × Nat × Nat) := [(8, 9, 8, 0, 45), (11, 101, 8, 1, 46), (8, 15, 8, 1, 47), (6, 43, 8, 1, 48), (6, 37, 8, 2, 49), (8, 32, 8, 2, 50), (8, 25, 8, 3, 51), (6, 216, 8, 3, 52), (8, 19, 8, 4, 53), (6, 128, 8, 5, 54), (8, 62, 8, 5, 55), (6, 12, 6, 0, 70), (11, 91, 6, 0, 71), (6, 18, 6, 1, 72), (6, 22, 6, 2, 73), (6, 59, 6, 3, 74), (0, 9, 0, 0, 90), (11, 139, 0, 0, 91), (0, 19, 0, 1, 92), (9, 107, 0, 1, 93), (10, 47, 0, 1, 94), (11, 142, 0, 1, 95), (0, 23, 0, 2, 96), (11, 129, 0, 2, 97), (9, 127, 0, 2, 98), (10, 142, 0, 2, 99), (0, 26, 0, 3, 100), (9, 104, 0, 3, 101), (10, 139, 0, 3, 102), (0, 29, 0, 4, 103), (9, 113, 0, 4, 104), (10, 145, 0, 4, 105), (11, 273, 0, 4, 106), (0, 32, 0, 5, 107), (9, 116, 0, 5, 108), (10, 148, 0, 5, 109), (11, 276, 0, 5, 110), (10, 9, 10, 0, 131), (10, 15, 10, 1, 132), (10, 18, 10, 2, 133), (10, 22, 10, 3, 134), (10, 97, 10, 4, 135), (10, 98, 10, 5, 136), (10, 99, 10, 6, 137), (10, 106, 10, 7, 138), (10, 123, 10, 8, 139), (10, 113, 10, 9, 140), (10, 118, 10, 10, 141), (9, 9, 9, 0, 174), (11, 199, 9, 0, 175), (9, 82, 9, 1, 176), (11, 203, 9, 1, 177), (9, 18, 9, 2, 178), (9, 22, 9, 3, 179), (9, 26, 9, 4, 180), (9, 29, 9, 5, 181), (9, 32, 9, 6, 182), (9, 35, 9, 7, 183), (9, 66, 9, 8, 184), (9, 72, 9, 9, 185), (9, 77, 9, 10, 186), (7, 9, 7, 0, 216), (7, 15, 7, 1, 217), (7, 33, 7, 2, 218), (3, 9, 3, 0, 232), (4, 9, 4, 0, 242), (4, 15, 4, 1, 243), (4, 18, 4, 2, 244), (1, 12, 1, 0, 261), (11, 263, 1, 0, 262), (1, 18, 1, 1, 263), (11, 266, 1, 1, 264), (11, 259, 1, 2, 265), (2, 9, 2, 0, 285), (2, 15, 2, 1, 286), (2, 18, 2, 2, 287), (5, 37, 2, 2, 288), (5, 9, 5, 0, 296), (7, 44, 5, 0, 297), (4, 39, 5, 0, 298), (3, 34, 5, 0, 299), (9, 85, 5, 0, 300), (10, 66, 5, 0, 301), (0, 94, 5, 0, 302), (11, 301, 5, 0, 303), (5, 15, 5, 1, 304), (9, 110, 5, 1, 305), (5, 18, 5, 2, 306), (7, 47, 5, 2, 307), (11, 115, 5, 2, 308), (3, 38, 5, 2, 309), (0, 53, 5, 2, 310), (6, 144, 5, 2, 311), (5, 21, 5, 3, 312), (6, 157, 5, 3, 313), (10, 133, 5, 3, 314), (5, 24, 5, 4, 315), (11, 118, 5, 4, 316), (5, 27, 5, 5, 317), (0, 50, 5, 5, 318), (5, 33, 5, 6, 319), (6, 118, 5, 6, 320), (0, 72, 5, 6, 321), (3, 15, 5, 7, 322), (7, 19, 5, 7, 323), (5, 41, 5, 7, 324), (6, 62, 5, 7, 325), (9, 43, 5, 7, 326), (11, 112, 5, 7, 327), (0, 69, 5, 7, 328), (10, 52, 5, 7, 329), (5, 44, 5, 8, 330), (7, 41, 5, 8, 331), (4, 35, 5, 8, 332), (3, 27, 5, 8, 333), (9, 63, 5, 8, 334), (10, 63, 5, 8, 335), (0, 91, 5, 8, 336), (11, 279, 5, 8, 337), (5, 47, 5, 9, 338), (10, 136, 5, 9, 339), (5, 50, 5, 10, 340), (0, 60, 5, 10, 341), (6, 148, 5, 10, 342), (5, 53, 5, 11, 343), (6, 151, 5, 11, 344), (11, 282, 5, 11, 345), (5, 56, 5, 12, 346), (6, 162, 5, 12, 347), (10, 103, 5, 12, 348), (5, 59, 5, 13, 349), (10, 26, 5, 13, 350), (11, 149, 5, 13, 351), (6, 166, 5, 13, 352), (5, 62, 5, 14, 353), (10, 31, 5, 14, 354), (0, 47, 5, 14, 355), (6, 171, 5, 14, 356), (5, 65, 5, 15, 357), (6, 174, 5, 15, 358), (5, 68, 5, 16, 359), (0, 66, 5, 16, 360), (6, 178, 5, 16, 361), (11, 10, 11, 0, 421), (11, 19, 11, 1, 422), (11, 23, 11, 2, 423), (11, 29, 11, 3, 424), (11, 36, 11, 4, 425), (11, 43, 11, 5, 426), (11, 50, 11, 6, 427), (11, 57, 11, 7, 428), (11, 63, 11, 8, 429), (11, 68, 11, 9, 430), (11, 72, 11, 10, 431), (11, 78, 11, 11, 432), (11, 82, 11, 12, 433), (11, 239, 11, 13, 434), (12, 1, 12, 0, 1220), (12, 14, 12, 1, 1221), (12, 11, 12, 2, 1222), (12, 145, 12, 3, 1223), (12, 24, 12, 4, 1224), (12, 27, 12, 5, 1225), (12, 30, 12, 6, 1226), (12, 164, 12, 7, 1227), (12, 167, 12, 8, 1228), (12, 78, 12, 9, 1229), (12, 81, 12, 10, 1230), (12, 84, 12, 11, 1231), (12, 87, 12, 12, 1232), (12, 192, 12, 13, 1233), (12, 195, 12, 14, 1234), (12, 90, 12, 15, 1235), (12, 93, 12, 16, 1236), (12, 96, 12, 17, 1237), (12, 99, 12, 18, 1238), (12, 265, 12, 19, 1239), (12, 268, 12, 20, 1240), (12, 271, 12, 21, 1241), (12, 274, 12, 22, 1242), (12, 104, 12, 23, 1243), (12, 289, 12, 24, 1244), (12, 107, 12, 25, 1245), (12, 110, 12, 26, 1246), (12, 113, 12, 27, 1247), (12, 116, 12, 28, 1248), (12, 119, 12, 29, 1249), (12, 380, 12, 30, 1250), (12, 122, 12, 31, 1251), (12, 125, 12, 32, 1252), (12, 128, 12, 33, 1253), (12, 131, 12, 34, 1254), (12, 134, 12, 35, 1255), (12, 419, 12, 36, 1256)]
def slk : List (Nat × Nat × Nat × Nat) := [(15, 38, 2, 519), (15, 1053, 3, 562), (15, 15, 1, 1744), (15, 9, 0, 1745)]
def mlk : List (Nat × Nat × Nat × Nat × Nat) := [(13, 15, 101, 0, 27), (11, 85, 25, 0, 397), (11, 88, 26, 0, 401), (5, 71, 27, 0, 405), (5, 75, 35, 0, 409), (5, 78, 36, 0, 413), (5, 81, 37, 0, 417), (13, 21, 102, 0, 464), (11, 95, 67, 0, 468), (13, 26, 103, 0, 472), (11, 105, 39, 0, 476), (6, 25, 25, 0, 480), (6, 30, 68, 0, 481), (8, 22, 69, 0, 485), (8, 28, 73, 0, 489), (8, 35, 74, 0, 492), (8, 38, 71, 0, 495), (8, 41, 75, 0, 499), (8, 44, 72, 0, 502), (8, 49, 246, 0, 507), (15, 633, 247, 0, 511), (15, 492, 244, 0, 515), (15, 505, 242, 0, 521), (15, 335, 243, 0, 525), (15, 637, 251, 0, 529), (16, 88, 250, 0, 532), (16, 92, 240, 0, 535), (16, 38, 241, 0, 538), (16, 95, 252, 0, 541), (6, 33, 40, 0, 593), (6, 51, 58, 0, 598), (6, 71, 70, 0, 602), (8, 55, 242, 0, 606), (8, 58, 245, 0, 607), (15, 495, 249, 0, 611), (16, 9, 248, 0, 614), (15, 1059, 253, 0, 617), (6, 125, 60, 0, 627), (6, 141, 69, 0, 631), (6, 55, 57, 0, 632), (6, 134, 56, 0, 636), (6, 65, 59, 0, 640), (6, 40, 41, 0, 644), (6, 74, 55, 0, 649), (6, 78, 42, 0, 653), (6, 131, 28, 0, 657), (6, 137, 27, 0, 661), (6, 83, 43, 0, 663), (6, 93, 44, 0, 670), (6, 98, 45, 0, 675), (6, 154, 29, 0, 679), (6, 103, 46, 0, 684), (6, 108, 47, 0, 691), (6, 113, 48, 0, 697), (6, 121, 49, 0, 703), (6, 181, 50, 0, 707), (6, 193, 51, 0, 711), (6, 196, 52, 0, 715), (6, 199, 53, 0, 719), (6, 204, 54, 0, 724), (6, 190, 12, 0, 732), (6, 46, 26, 0, 738), (11, 109, 129, 0, 739), (11, 132, 1, 0, 743), (0, 15, 2, 0, 747), (11, 285, 85, 0, 751), (11, 288, 77, 0, 755), (13, 31, 104, 0, 760), (13, 35, 105, 0, 764), (11, 121, 4, 0, 768), (0, 41, 28, 0, 772), (0, 56, 29, 0, 773), (0, 63, 30, 0, 774), (13, 40, 106, 0, 778), (11, 125, 5, 0, 782), (13, 44, 107, 0, 786), (11, 135, 6, 0, 790), (13, 49, 108, 0, 794), (13, 54, 109, 0, 798), (11, 145, 31, 0, 802), (13, 58, 110, 0, 806), (11, 152, 130, 0, 810), (11, 173, 86, 0, 814), (10, 34, 95, 0, 818), (10, 109, 33, 0, 822), (10, 115, 34, 0, 826), (10, 120, 96, 0, 830), (10, 129, 28, 0, 834), (10, 44, 241, 0, 836), (10, 38, 240, 0, 837), (11, 161, 3, 0, 839), (10, 55, 98, 0, 850), (10, 151, 31, 0, 854), (10, 59, 97, 0, 855), (10, 69, 91, 0, 859), (10, 73, 99, 0, 863), (10, 89, 4, 0, 867), (10, 154, 100, 0, 868), (10, 77, 5, 0, 872), (10, 81, 90, 0, 873), (10, 85, 6, 0, 874), (13, 63, 111, 0, 875), (11, 158, 87, 0, 880), (13, 68, 112, 0, 884), (11, 169, 109, 0, 888), (11, 176, 92, 0, 889), (13, 72, 113, 0, 893), (11, 179, 131, 0, 897), (11, 289, 93, 0, 901), (13, 86, 115, 0, 905), (11, 191, 134, 0, 909), (11, 195, 78, 0, 913), (9, 39, 79, 0, 917), (9, 69, 33, 0, 921), (9, 74, 34, 0, 922), (9, 79, 240, 0, 923), (9, 49, 32, 0, 924), (9, 53, 241, 0, 928), (9, 59, 80, 0, 929), (9, 88, 2, 0, 933), (9, 92, 81, 0, 934), (9, 96, 8, 0, 938), (0, 95, 7, 0, 942), (0, 76, 13, 0, 946), (2, 22, 14, 0, 950), (2, 26, 15, 0, 953), (0, 82, 241, 0, 956), (0, 88, 240, 0, 957), (9, 100, 82, 0, 958), (9, 119, 9, 0, 962), (0, 99, 4, 0, 966), (9, 123, 83, 0, 967), (9, 129, 5, 0, 971), (13, 91, 116, 0, 972), (13, 96, 117, 0, 976), (11, 206, 7, 0, 980), (13, 100, 118, 0, 981), (11, 210, 17, 0, 985), (3, 23, 18, 0, 990), (3, 30, 19, 0, 994), (13, 104, 119, 0, 997), (11, 214, 88, 0, 1001), (10, 93, 94, 0, 1009), (13, 108, 120, 0, 1010), (13, 112, 121, 0, 1014), (13, 117, 122, 0, 1018), (11, 221, 89, 0, 1022), (13, 121, 123, 0, 1026), (11, 225, 62, 0, 1030), (7, 25, 63, 0, 1034), (7, 29, 64, 0, 1038), (7, 37, 65, 0, 1042), (13, 125, 124, 0, 1046), (11, 229, 135, 0, 1050), (11, 232, 137, 0, 1053), (13, 130, 125, 0, 1056), (11, 236, 136, 0, 1060), (11, 243, 132, 0, 1064), (13, 134, 126, 0, 1073), (11, 249, 8, 0, 1077), (11, 252, 9, 0, 1078), (11, 256, 133, 0, 1079), (13, 138, 127, 0, 1083), (13, 143, 128, 0, 1088), (13, 7, 114, 0, 1096), (11, 187, 21, 0, 1162), (4, 21, 22, 0, 1166), (4, 25, 23, 0, 1170), (4, 29, 32, 0, 1174), (13, 83, 138, 0, 1175), (13, 25, 139, 0, 1179), (12, 7, 140, 0, 1183), (13, 18, 141, 0, 1189), (12, 137, 155, 0, 1216), (13, 30, 158, 0, 1333), (12, 189, 146, 0, 1337), (12, 141, 142, 0, 1341), (12, 150, 144, 0, 1345), (12, 154, 143, 0, 1348), (12, 161, 145, 0, 1353), (12, 182, 153, 0, 1356), (12, 179, 152, 0, 1360), (12, 176, 149, 0, 1364), (12, 173, 147, 0, 1368), (12, 185, 156, 0, 1372), (12, 198, 150, 0, 1376), (12, 170, 148, 0, 1380), (12, 201, 161, 0, 1384), (12, 211, 162, 0, 1388), (12, 214, 163, 0, 1392), (12, 237, 164, 0, 1396), (12, 217, 165, 0, 1400), (12, 220, 160, 0, 1404), (12, 241, 166, 0, 1408), (12, 223, 167, 0, 1412), (12, 226, 157, 0, 1416), (12, 230, 169, 0, 1420), (12, 244, 170, 0, 1424), (12, 247, 171, 0, 1428), (12, 253, 172, 0, 1432), (12, 256, 173, 0, 1436), (12, 233, 168, 0, 1440), (12, 250, 151, 0, 1444), (12, 204, 159, 0, 1448), (12, 207, 177, 0, 1452), (13, 34, 199, 0, 1456), (12, 296, 176, 0, 1460), (12, 338, 154, 0, 1464), (12, 341, 225, 0, 1467), (12, 262, 178, 0, 1471), (12, 283, 179, 0, 1475), (13, 39, 200, 0, 1479), (12, 344, 183, 0, 1483), (12, 277, 180, 0, 1487), (12, 280, 181, 0, 1491), (12, 286, 182, 0, 1495), (12, 347, 198, 0, 1499), (12, 335, 185, 0, 1503), (12, 327, 189, 0, 1507), (12, 299, 186, 0, 1511), (12, 302, 188, 0, 1515), (12, 293, 187, 0, 1519), (13, 43, 201, 0, 1523), (12, 350, 200, 0, 1527), (13, 48, 202, 0, 1528), (13, 53, 203, 0, 1532), (13, 57, 205, 0, 1536), (12, 353, 204, 0, 1540), (13, 62, 206, 0, 1544), (12, 356, 194, 0, 1548), (12, 310, 191, 0, 1552), (12, 313, 192, 0, 1556), (12, 306, 184, 0, 1560), (12, 316, 196, 0, 1563), (12, 331, 190, 0, 1567), (12, 320, 195, 0, 1571), (12, 324, 193, 0, 1575), (12, 360, 197, 0, 1579), (13, 67, 207, 0, 1583), (13, 71, 208, 0, 1588), (13, 76, 210, 0, 1592), (12, 365, 209, 0, 1596), (13, 82, 212, 0, 1600), (12, 370, 211, 0, 1605), (12, 374, 213, 0, 1609), (13, 90, 219, 0, 1613), (12, 397, 218, 0, 1617), (12, 401, 215, 0, 1621), (12, 384, 216, 0, 1625), (12, 388, 214, 0, 1629), (12, 377, 174, 0, 1633), (12, 259, 175, 0, 1637), (12, 391, 217, 0, 1640), (13, 95, 220, 0, 1644), (13, 99, 221, 0, 1648), (13, 103, 223, 0, 1652), (12, 404, 222, 0, 1656), (13, 107, 224, 0, 1660), (13, 111, 226, 0, 1664), (13, 116, 227, 0, 1668), (13, 120, 228, 0, 1672), (13, 124, 233, 0, 1676), (12, 416, 230, 0, 1680), (12, 407, 229, 0, 1684), (12, 410, 231, 0, 1688), (12, 413, 232, 0, 1692), (13, 129, 234, 0, 1696), (13, 133, 236, 0, 1700), (12, 431, 235, 0, 1705), (13, 137, 237, 0, 1714), (13, 142, 238, 0, 1718), (13, 146, 239, 0, 1722), (11, 9, 38, 1, 35), (6, 11, 66, 1, 41), (11, 18, 0, 1, 86), (11, 28, 84, 1, 127), (11, 35, 76, 1, 168), (9, 17, 0, 1, 173), (11, 42, 61, 1, 212), (11, 49, 16, 1, 228), (11, 56, 20, 1, 238), (11, 67, 10, 1, 255), (1, 11, 0, 1, 260), (11, 77, 24, 1, 275), (5, 32, 11, 1, 281), (11, 165, 90, 1, 846), (11, 217, 94, 1, 1005)]
def olk : List (Nat × Nat × Nat) := [(11, 1, 30), (6, 3, 38), (8, 3, 44), (0, 3, 89), (10, 3, 130), (9, 3, 171), (7, 3, 215), (3, 3, 231), (4, 3, 241), (1, 3, 258), (5, 3, 278), (2, 3, 284), (12, 18, 1192)]
def alk : List (Nat × Nat × Nat) := [(0, 35, 843), (11, 267, 1087)]
def clk : List (Nat × Nat × Nat × Nat) := [(13, 8, 11, 25), (11, 7, 6, 33), (6, 9, 8, 39), (11, 16, 0, 84), (11, 26, 10, 125), (11, 33, 9, 166), (9, 15, 0, 172), (11, 40, 7, 210), (11, 47, 3, 226), (11, 54, 4, 236), (11, 61, 1, 252), (1, 9, 0, 259), (11, 75, 5, 273), (5, 30, 2, 279), (13, 16, 12, 1188)]
def cst : List (Nat × Nat × Int32 × Nat) := [(10, 126, 143500, 835), (11, 242, 32768, 1063), (11, 183, 999999999, 1100), (12, 103, 294175, 1215), (12, 369, 999999999, 1604), (12, 430, 32768, 1704)]
def cstl : List (Nat × Nat × Int64 × Nat) := [(10, 127, -1, 838), (11, 156, -1, 879), (11, 302, 1000000000000, 912), (3, 21, -1, 989), (11, 293, 1103515245, 1068), (11, 295, 12345, 1069), (11, 297, 2147483647, 1070), (11, 299, 65536, 1071), (11, 247, 32768, 1072), (12, 34, 36623839, 1193), (12, 36, 50169877366, 1194), (12, 38, 173197865, 1195), (12, 40, 6541130, 1196), (12, 42, 242021829, 1197), (12, 44, 30884514577, 1198), (12, 46, 2793, 1199), (12, 48, 325028, 1200), (12, 50, 614923, 1201), (12, 52, 34200674, 1202), (12, 54, 6411565, 1203), (12, 56, 755, 1204), (12, 58, 14037783, 1205), (12, 60, 37957098, 1206), (12, 62, 679583, 1207), (12, 64, 19741, 1208), (12, 66, 1891, 1209), (12, 68, 573, 1210), (12, 70, 1355942631, 1211), (12, 72, 609928, 1212), (12, 74, 989988, 1213), (12, 76, 37549131, 1214), (12, 148, 37, 1344), (12, 157, 10, 1351), (12, 159, 48, 1352), (12, 363, -1, 1587), (12, 395, 1000000000000, 1620), (12, 422, 1103515245, 1709), (12, 424, 12345, 1710), (12, 426, 2147483648, 1711), (12, 428, 65536, 1712), (12, 434, 32768, 1713), (13, 19, 4294967295, 1726)]
def srf : List (Nat × Nat × Nat × Nat) := [(8, 47, 0, 506), (6, 49, 1, 597), (6, 69, 2, 648), (6, 81, 3, 662), (6, 87, 4, 667), (6, 89, 5, 668), (6, 91, 6, 669), (6, 96, 7, 674), (6, 101, 8, 683), (6, 160, 9, 688), (6, 164, 10, 689), (6, 106, 11, 690), (6, 169, 12, 695), (6, 111, 13, 696), (6, 176, 14, 701), (6, 116, 15, 702), (6, 202, 16, 723), (6, 208, 17, 728), (6, 210, 18, 729), (6, 212, 19, 730), (6, 214, 20, 731), (6, 184, 21, 736), (6, 186, 22, 737)]
def stx : List String := ["()<=+-*;", "stair", "strides", "broken", "creak", "landing", "creaks", "bar", "foot", "left", "right", "count", "to", "great", "times", "mood", "not", "stride", "last", "step", "taken", "and", "or"]
def inP : List (Nat × Nat) := [(0, 4), (1, 10), (2, 12), (3, 8), (4, 9), (5, 11), (6, 2), (7, 7), (8, 3), (9, 6), (10, 5), (11, 1), (12, 13), (13, 0), (14, 16), (15, 14), (16, 15), (17, 18)]
def nwP : List (Nat × Nat) := [(0, 85), (1, 254), (2, 280), (3, 227), (4, 237), (5, 274), (6, 34), (7, 211), (8, 40), (9, 167), (10, 126), (11, 26), (12, 1186)]
def mtb : List (Nat × String × String × ByteArray × Nat × Option FieldType × Nat) := [(0, "<init>", "()V", prog_2_method_1_code, 1, none, 0),
  (0, "start", "()V", prog_2_method_2_code, 1, none, 0),
  (0, "put", "(IIIII)V", prog_2_method_3_code, 6, none, 5),
  (0, "follow", "(LStairWays$Climber;)V", prog_2_method_4_code, 2, none, 1),
  (0, "can", "(LStairWays$Stair;I)Z", prog_2_method_5_code, 4, (some .boolean), 2),
  (0, "go", "(LStairWays$Stair;I)V", prog_2_method_6_code, 3, none, 2),
  (0, "undo", "(LStairWays$Stair;)V", prog_2_method_7_code, 2, none, 1),
  (0, "moodOf", "(LStairWays$Stair;I)I", prog_2_method_8_code, 4, (some .int), 2),
  (0, "feelMoods", "(LStairWays$Stair;[I)V", prog_2_method_9_code, 4, none, 2),
  (0, "keepPossible", "(LStairWays$Stair;[I[I)I", prog_2_method_10_code, 6, (some .int), 3),
  (1, "<init>", "()V", prog_3_method_1_code, 1, none, 0),
  (2, "<init>", "()V", prog_4_method_1_code, 1, none, 0),
  (2, "add", "(I)V", prog_4_method_2_code, 2, none, 1),
  (2, "of", "(IIII)I", prog_4_method_3_code, 8, (some .int), 4),
  (2, "fact", "(IIIII)I", prog_4_method_4_code, 5, (some .int), 5),
  (2, "joined", "(III)I", prog_4_method_5_code, 3, (some .int), 3),
  (3, "<init>", "()V", prog_5_method_1_code, 1, none, 0),
  (3, "pairs", "(LStairWays$Stair;)J", prog_5_method_2_code, 4, (some .long), 1),
  (3, "beat", "(LStairWays$Stair;II)V", prog_5_method_3_code, 10, none, 3),
  (3, "moved", "(LStairWays$Stair;III)I", prog_5_method_4_code, 5, (some .int), 4),
  (4, "<init>", "()V", prog_6_method_1_code, 1, none, 0),
  (4, "rest", "(LStairWays$Stair;II)I", prog_6_method_2_code, 7, (some .int), 3),
  (4, "findFirst", "(LStairWays$Stair;I)V", prog_6_method_3_code, 6, none, 2),
  (4, "square", "(LStairWays$Stair;II)V", prog_6_method_4_code, 9, none, 3),
  (5, "<init>", "()V", prog_7_method_1_code, 1, none, 0),
  (5, "clear", "()V", prog_7_method_2_code, 2, none, 0),
  (5, "finish", "()V", prog_7_method_3_code, 2, none, 0),
  (5, "addStride", "(I)V", prog_7_method_4_code, 3, none, 1),
  (5, "tells", "(I)Z", prog_7_method_5_code, 2, (some .boolean), 1),
  (5, "isBarred", "(II)Z", prog_7_method_6_code, 3, (some .boolean), 2),
  (5, "isGreat", "(I)Z", prog_7_method_7_code, 2, (some .boolean), 1),
  (5, "footFits", "(I)Z", prog_7_method_8_code, 2, (some .boolean), 1),
  (5, "longest", "()I", prog_7_method_9_code, 1, (some .int), 0),
  (5, "creakKinds", "()I", prog_7_method_10_code, 1, (some .int), 0),
  (5, "greatKinds", "()I", prog_7_method_11_code, 1, (some .int), 0),
  (5, "findFarthest", "()V", prog_7_method_12_code, 3, none, 0),
  (5, "findHeaps", "()V", prog_7_method_13_code, 2, none, 0),
  (5, "leastHeap", "(I)I", prog_7_method_14_code, 5, (some .int), 1),
  (6, "<init>", "()V", prog_8_method_1_code, 1, none, 0),
  (6, "read", "(LStairWays$Stair;)I", prog_8_method_2_code, 4, (some .int), 1),
  (6, "readFirst", "(LStairWays$Stair;)Z", prog_8_method_3_code, 2, (some .boolean), 1),
  (6, "readLine", "(LStairWays$Stair;)Z", prog_8_method_4_code, 2, (some .boolean), 1),
  (6, "readStrides", "(LStairWays$Stair;)Z", prog_8_method_5_code, 3, (some .boolean), 1),
  (6, "readStep", "(LStairWays$Stair;I)Z", prog_8_method_6_code, 4, (some .boolean), 2),
  (6, "readCreaks", "(LStairWays$Stair;)Z", prog_8_method_7_code, 2, (some .boolean), 1),
  (6, "readBar", "(LStairWays$Stair;)Z", prog_8_method_8_code, 3, (some .boolean), 1),
  (6, "readFoot", "(LStairWays$Stair;)Z", prog_8_method_9_code, 2, (some .boolean), 1),
  (6, "readCount", "(LStairWays$Stair;)Z", prog_8_method_10_code, 2, (some .boolean), 1),
  (6, "readGreat", "(LStairWays$Stair;)Z", prog_8_method_11_code, 2, (some .boolean), 1),
  (6, "readEither", "(LStairWays$Mood;I)Z", prog_8_method_12_code, 5, (some .boolean), 2),
  (6, "readTest", "(LStairWays$Mood;I)Z", prog_8_method_13_code, 4, (some .boolean), 2),
  (6, "readSum", "(LStairWays$Mood;I)Z", prog_8_method_14_code, 5, (some .boolean), 2),
  (6, "readProduct", "(LStairWays$Mood;I)Z", prog_8_method_15_code, 4, (some .boolean), 2),
  (6, "readPart", "(LStairWays$Mood;I)Z", prog_8_method_16_code, 6, (some .boolean), 2),
  (6, "namedFact", "()I", prog_8_method_17_code, 1, (some .int), 0),
  (6, "isFirst", "(I)Z", prog_8_method_18_code, 2, (some .boolean), 1),
  (6, "isNumber", "(II)Z", prog_8_method_19_code, 3, (some .boolean), 2),
  (6, "takeNumber", "(II)Z", prog_8_method_20_code, 3, (some .boolean), 2),
  (6, "takeWord", "(Ljava/lang/String;)Z", prog_8_method_21_code, 2, (some .boolean), 1),
  (6, "takeSign", "(C)Z", prog_8_method_22_code, 2, (some .boolean), 1),
  (6, "fail", "(I)Z", prog_8_method_23_code, 2, (some .boolean), 1),
  (7, "<init>", "()V", prog_9_method_1_code, 1, none, 0),
  (7, "fewestClimbers", "(LStairWays$Stair;[I)I", prog_9_method_2_code, 5, (some .int), 2),
  (7, "findReached", "(LStairWays$Stair;[I)V", prog_9_method_3_code, 6, none, 2),
  (7, "leads", "(II)Z", prog_9_method_4_code, 3, (some .boolean), 2),
  (7, "joins", "(LStairWays$Stair;[III)Z", prog_9_method_5_code, 6, (some .boolean), 4),
  (8, "<init>", "()V", prog_10_method_1_code, 1, none, 0),
  (8, "put", "(J)V", prog_10_method_2_code, 6, none, 1),
  (8, "rewind", "()V", prog_10_method_3_code, 1, none, 0),
  (8, "advance", "()V", prog_10_method_4_code, 2, none, 0),
  (8, "isWord", "(Ljava/lang/String;)Z", prog_10_method_5_code, 3, (some .boolean), 1),
  (8, "readWord", "()V", prog_10_method_6_code, 1, none, 0),
  (8, "readNumber", "()V", prog_10_method_7_code, 1, none, 0),
  (8, "isBlank", "(C)Z", prog_10_method_8_code, 1, (some .boolean), 1),
  (8, "isLetter", "(C)Z", prog_10_method_9_code, 1, (some .boolean), 1),
  (8, "isDigit", "(C)Z", prog_10_method_10_code, 1, (some .boolean), 1),
  (9, "<init>", "()V", prog_11_method_1_code, 1, none, 0),
  (9, "forget", "()V", prog_11_method_2_code, 1, none, 0),
  (9, "goUp", "(LStairWays$Stair;J)V", prog_11_method_3_code, 7, none, 2),
  (9, "begin", "(LStairWays$Stair;)V", prog_11_method_4_code, 4, none, 1),
  (9, "passStep", "(LStairWays$Stair;II)V", prog_11_method_5_code, 12, none, 3),
  (9, "placeOf", "(LStairWays$Stair;LStairWays$Climber;)I", prog_11_method_6_code, 4, (some .int), 2),
  (9, "part", "(LStairWays$Stair;J)V", prog_11_method_7_code, 9, none, 2),
  (9, "send", "(LStairWays$Stair;IJ)V", prog_11_method_8_code, 11, none, 3),
  (10, "<init>", "()V", prog_12_method_1_code, 1, none, 0),
  (10, "forget", "()V", prog_12_method_2_code, 1, none, 0),
  (10, "beginAll", "(LStairWays$Stair;)V", prog_12_method_3_code, 2, none, 1),
  (10, "beginExactly", "(LStairWays$Stair;I)V", prog_12_method_4_code, 3, none, 2),
  (10, "beginGame", "(LStairWays$Stair;)V", prog_12_method_5_code, 2, none, 1),
  (10, "beginDusty", "(LStairWays$Stair;[I)V", prog_12_method_6_code, 4, none, 2),
  (10, "from", "(LStairWays$Stair;LStairWays$Climber;I)J", prog_12_method_7_code, 8, (some .long), 3),
  (10, "behind", "(LStairWays$Stair;LStairWays$Climber;II)J", prog_12_method_8_code, 7, (some .long), 4),
  (10, "ahead", "(LStairWays$Stair;LStairWays$Climber;I)J", prog_12_method_9_code, 7, (some .long), 3),
  (10, "strideAt", "(LStairWays$Stair;LStairWays$Climber;JI)I", prog_12_method_10_code, 13, (some .int), 4),
  (10, "winning", "(LStairWays$Stair;LStairWays$Climber;I)I", prog_12_method_11_code, 8, (some .int), 3),
  (10, "begin", "(LStairWays$Stair;III)V", prog_12_method_12_code, 8, none, 4),
  (10, "findLastKinds", "(LStairWays$Stair;)V", prog_12_method_13_code, 3, none, 1),
  (10, "placeOf", "(LStairWays$Climber;)I", prog_12_method_14_code, 3, (some .int), 1),
  (10, "isEnd", "(LStairWays$Stair;LStairWays$Climber;)Z", prog_12_method_15_code, 3, (some .boolean), 2),
  (10, "isOpen", "(LStairWays$Stair;LStairWays$Climber;I)Z", prog_12_method_16_code, 4, (some .boolean), 3),
  (10, "agreesWithDust", "(II)Z", prog_12_method_17_code, 4, (some .boolean), 2),
  (11, "<init>", "()V", prog_1_method_1_code, 2, none, 0),
  (11, "feed", "(JJJ)I", prog_1_method_2_code, 7, (some .int), 3),
  (11, "stair", "()I", prog_1_method_3_code, 3, (some .int), 0),
  (11, "step", "(II)I", prog_1_method_4_code, 3, (some .int), 2),
  (11, "may", "(I)Z", prog_1_method_5_code, 2, (some .boolean), 1),
  (11, "stride", "(I)Z", prog_1_method_6_code, 2, (some .boolean), 1),
  (11, "back", "(Z)Z", prog_1_method_7_code, 2, (some .boolean), 1),
  (11, "taken", "(I)I", prog_1_method_8_code, 2, (some .int), 1),
  (11, "lawful", "()I", prog_1_method_9_code, 1, (some .int), 0),
  (11, "many", "()J", prog_1_method_10_code, 1, (some .long), 0),
  (11, "manyOf", "(I)J", prog_1_method_11_code, 2, (some .long), 1),
  (11, "rank", "()J", prog_1_method_12_code, 4, (some .long), 0),
  (11, "nth", "(JI)I", prog_1_method_13_code, 4, (some .int), 2),
  (11, "plain", "(II)I", prog_1_method_14_code, 3, (some .int), 2),
  (11, "crowd", "(JI)J", prog_1_method_15_code, 4, (some .long), 2),
  (11, "weary", "(J)J", prog_1_method_16_code, 3, (some .long), 1),
  (11, "weight", "(I)I", prog_1_method_17_code, 2, (some .int), 1),
  (11, "two", "()J", prog_1_method_18_code, 1, (some .long), 0),
  (11, "game", "()I", prog_1_method_19_code, 1, (some .int), 0),
  (11, "heaps", "(I)I", prog_1_method_20_code, 6, (some .int), 1),
  (11, "dust", "(II)Z", prog_1_method_21_code, 3, (some .boolean), 2),
  (11, "fit", "()J", prog_1_method_22_code, 1, (some .long), 0),
  (11, "fewest", "()I", prog_1_method_23_code, 1, (some .int), 0),
  (11, "still", "(IIIII)I", prog_1_method_24_code, 9, (some .int), 5),
  (11, "fair", "(II)I", prog_1_method_25_code, 7, (some .int), 2),
  (11, "climb", "(II)I", prog_1_method_26_code, 5, (some .int), 2),
  (11, "mark", "(IZ)Z", prog_1_method_27_code, 4, (some .boolean), 2),
  (11, "count", "(I)I", prog_1_method_28_code, 2, (some .int), 1),
  (11, "beginAnew", "()V", prog_1_method_29_code, 3, none, 0),
  (11, "manyFrom", "(LStairWays$Climber;)J", prog_1_method_30_code, 2, (some .long), 1),
  (11, "strideOf", "(JI)I", prog_1_method_31_code, 4, (some .int), 2),
  (11, "drawBelow", "(I)I", prog_1_method_32_code, 2, (some .int), 1),
  (11, "strideWeighing", "(I)I", prog_1_method_33_code, 4, (some .int), 1),
  (11, "isNoCrowd", "(J)Z", prog_1_method_34_code, 2, (some .boolean), 1),
  (11, "isNoStill", "(I)Z", prog_1_method_35_code, 1, (some .boolean), 1),
  (11, "isNoSeed", "(I)Z", prog_1_method_36_code, 1, (some .boolean), 1),
  (11, "commonDivisor", "(II)I", prog_1_method_37_code, 6, (some .int), 2),
  (12, "thrown", "()I", prog_14_method_1_code, 1, (some .int), 0),
  (12, "feed", "(JJJ)I", prog_14_method_2_code, 7, (some .int), 3),
  (12, "lay", "(J)V", prog_14_method_3_code, 5, none, 1),
  (12, "<init>", "()V", prog_14_method_4_code, 1, none, 0),
  (12, "isLetter", "(I)Z", prog_14_method_5_code, 1, (some .boolean), 1),
  (12, "isDigit", "(I)Z", prog_14_method_6_code, 1, (some .boolean), 1),
  (12, "rank", "(I)I", prog_14_method_7_code, 1, (some .int), 1),
  (12, "isSignOf", "(I)Z", prog_14_method_8_code, 1, (some .boolean), 1),
  (12, "cutAll", "()V", prog_14_method_9_code, 7, none, 0),
  (12, "wrong", "(I)V", prog_14_method_10_code, 2, none, 1),
  (12, "isSign", "(I)Z", prog_14_method_11_code, 2, (some .boolean), 1),
  (12, "isWord", "(I)Z", prog_14_method_12_code, 2, (some .boolean), 1),
  (12, "takeSign", "(I)V", prog_14_method_13_code, 2, none, 1),
  (12, "hasSign", "(I)Z", prog_14_method_14_code, 3, (some .boolean), 1),
  (12, "hasWord", "(I)Z", prog_14_method_15_code, 3, (some .boolean), 1),
  (12, "takeWord", "(I)V", prog_14_method_16_code, 2, none, 1),
  (12, "within", "(III)Z", prog_14_method_17_code, 3, (some .boolean), 3),
  (12, "standsAsAlways", "(I)V", prog_14_method_18_code, 3, none, 1),
  (12, "takeNumber", "(II)I", prog_14_method_19_code, 3, (some .int), 2),
  (12, "takeAfter", "(III)I", prog_14_method_20_code, 4, (some .int), 3),
  (12, "stair", "()I", prog_14_method_21_code, 2, (some .int), 0),
  (12, "sorts", "()V", prog_14_method_22_code, 5, none, 0),
  (12, "isOnce", "(I)Z", prog_14_method_23_code, 2, (some .boolean), 1),
  (12, "readLine", "()V", prog_14_method_24_code, 1, none, 0),
  (12, "readStep", "()V", prog_14_method_25_code, 3, none, 0),
  (12, "readBar", "()V", prog_14_method_26_code, 4, none, 0),
  (12, "isBarred", "(III)Z", prog_14_method_27_code, 6, (some .boolean), 3),
  (12, "readStrides", "()V", prog_14_method_28_code, 1, none, 0),
  (12, "readStride", "()V", prog_14_method_29_code, 4, none, 0),
  (12, "readFoot", "()V", prog_14_method_30_code, 1, none, 0),
  (12, "emit", "(II)V", prog_14_method_31_code, 3, none, 2),
  (12, "all", "(I)V", prog_14_method_32_code, 3, none, 1),
  (12, "test", "(I)V", prog_14_method_33_code, 3, none, 1),
  (12, "sums", "(I)V", prog_14_method_34_code, 3, none, 1),
  (12, "products", "(I)V", prog_14_method_35_code, 2, none, 1),
  (12, "takePart", "(I)V", prog_14_method_36_code, 5, none, 1),
  (12, "worthAt", "(I)I", prog_14_method_37_code, 5, (some .int), 1),
  (12, "both", "(III)I", prog_14_method_38_code, 3, (some .int), 3),
  (12, "steps", "()I", prog_14_method_39_code, 1, (some .int), 0),
  (12, "strides", "()I", prog_14_method_40_code, 1, (some .int), 0),
  (12, "strideOf", "(I)I", prog_14_method_41_code, 2, (some .int), 1),
  (12, "kindOf", "(I)I", prog_14_method_42_code, 2, (some .int), 1),
  (12, "takenMany", "()I", prog_14_method_43_code, 1, (some .int), 0),
  (12, "indexOf", "(I)I", prog_14_method_44_code, 4, (some .int), 1),
  (12, "isGreat", "(I)Z", prog_14_method_45_code, 2, (some .boolean), 1),
  (12, "findNow", "()V", prog_14_method_46_code, 3, none, 0),
  (12, "placeOf", "(IIIII)I", prog_14_method_47_code, 5, (some .int), 5),
  (12, "creakOf", "(I)I", prog_14_method_48_code, 2, (some .int), 1),
  (12, "isShut", "(I)Z", prog_14_method_49_code, 2, (some .boolean), 1),
  (12, "isMust", "(I)Z", prog_14_method_50_code, 2, (some .boolean), 1),
  (12, "passesMust", "(II)Z", prog_14_method_51_code, 5, (some .boolean), 2),
  (12, "mayNext", "(IIIIII)Z", prog_14_method_52_code, 9, (some .boolean), 6),
  (12, "nextAt", "(IIIIII)I", prog_14_method_53_code, 8, (some .int), 6),
  (12, "mostCreaks", "()I", prog_14_method_54_code, 1, (some .int), 0),
  (12, "mostGreats", "()I", prog_14_method_55_code, 1, (some .int), 0),
  (12, "isLawfulAt", "(I)Z", prog_14_method_56_code, 3, (some .boolean), 1),
  (12, "lays", "(IZ)V", prog_14_method_57_code, 8, none, 2),
  (12, "ways", "(IIIIII)J", prog_14_method_58_code, 10, (some .long), 6),
  (12, "wins", "(IIIII)J", prog_14_method_59_code, 8, (some .long), 5),
  (12, "nowAt", "()I", prog_14_method_60_code, 1, (some .int), 0),
  (12, "mayNow", "(I)Z", prog_14_method_61_code, 2, (some .boolean), 1),
  (12, "step", "(II)I", prog_14_method_62_code, 3, (some .int), 2),
  (12, "may", "(I)Z", prog_14_method_63_code, 3, (some .boolean), 1),
  (12, "stride", "(I)Z", prog_14_method_64_code, 2, (some .boolean), 1),
  (12, "back", "(Z)Z", prog_14_method_65_code, 2, (some .boolean), 1),
  (12, "taken", "(I)I", prog_14_method_66_code, 2, (some .int), 1),
  (12, "lawfulNow", "()I", prog_14_method_67_code, 2, (some .int), 0),
  (12, "lawful", "()I", prog_14_method_68_code, 1, (some .int), 0),
  (12, "many", "()J", prog_14_method_69_code, 1, (some .long), 0),
  (12, "manyOf", "(I)J", prog_14_method_70_code, 2, (some .long), 1),
  (12, "rank", "()J", prog_14_method_71_code, 6, (some .long), 0),
  (12, "strideAt", "(JI)I", prog_14_method_72_code, 14, (some .int), 2),
  (12, "nth", "(JI)I", prog_14_method_73_code, 6, (some .int), 2),
  (12, "multiplies", "([J[JI)V", prog_14_method_74_code, 9, none, 3),
  (12, "plain", "(II)I", prog_14_method_75_code, 4, (some .int), 2),
  (12, "squares", "(I)V", prog_14_method_76_code, 3, none, 1),
  (12, "weightAt", "(IIIIII)I", prog_14_method_77_code, 8, (some .int), 6),
  (12, "goesCrowd", "(J)V", prog_14_method_78_code, 8, none, 1),
  (12, "parts", "(IIIII)V", prog_14_method_79_code, 15, none, 5),
  (12, "moves", "(IIIIIIJ)V", prog_14_method_80_code, 9, none, 7),
  (12, "isCrowd", "(J)Z", prog_14_method_81_code, 2, (some .boolean), 1),
  (12, "crowd", "(JI)J", prog_14_method_82_code, 4, (some .long), 2),
  (12, "weary", "(J)J", prog_14_method_83_code, 3, (some .long), 1),
  (12, "weight", "(I)I", prog_14_method_84_code, 2, (some .int), 1),
  (12, "comes", "(III)I", prog_14_method_85_code, 5, (some .int), 3),
  (12, "two", "()J", prog_14_method_86_code, 10, (some .long), 0),
  (12, "game", "()I", prog_14_method_87_code, 2, (some .int), 0),
  (12, "findHeaps", "()V", prog_14_method_88_code, 5, none, 0),
  (12, "heaps", "(I)I", prog_14_method_89_code, 7, (some .int), 1),
  (12, "dust", "(II)Z", prog_14_method_90_code, 3, (some .boolean), 2),
  (12, "fit", "()J", prog_14_method_91_code, 1, (some .long), 0),
  (12, "isOpen", "(I)Z", prog_14_method_92_code, 2, (some .boolean), 1),
  (12, "findLeads", "()V", prog_14_method_93_code, 6, none, 0),
  (12, "isTrodden", "(I)Z", prog_14_method_94_code, 2, (some .boolean), 1),
  (12, "finds", "(I)Z", prog_14_method_95_code, 3, (some .boolean), 1),
  (12, "fewest", "()I", prog_14_method_96_code, 4, (some .int), 0),
  (12, "still", "(IIIII)I", prog_14_method_97_code, 11, (some .int), 5),
  (12, "draw", "(I)I", prog_14_method_98_code, 2, (some .int), 1),
  (12, "fair", "(II)I", prog_14_method_99_code, 7, (some .int), 2),
  (12, "climb", "(II)I", prog_14_method_100_code, 11, (some .int), 2),
  (12, "mark", "(IZ)Z", prog_14_method_101_code, 6, (some .boolean), 2),
  (12, "count", "(I)I", prog_14_method_102_code, 2, (some .int), 1),
  (14, "max", "(II)I", prog_20_method_65_code, 2, (some .int), 2),
  (14, "min", "(II)I", prog_20_method_69_code, 2, (some .int), 2),
  (15, "length", "()I", prog_22_method_54_code, 1, (some .int), 0),
  (15, "coder", "()B", prog_22_method_152_code, 1, (some .byte), 0),
  (15, "isLatin1", "()Z", prog_22_method_154_code, 1, (some .boolean), 0),
  (15, "charAt", "(I)C", prog_22_method_56_code, 2, (some .char), 1),
  (15, "indexOf", "(I)I", prog_22_method_79_code, 2, (some .int), 1),
  (15, "indexOf", "(II)I", prog_22_method_80_code, 3, (some .int), 2),
  (15, "checkIndex", "(II)V", prog_22_method_155_code, 2, none, 2),
  (16, "charAt", "([BI)C", prog_23_method_2_code, 2, (some .char), 2),
  (16, "canEncode", "(I)Z", prog_23_method_4_code, 1, (some .boolean), 1),
  (16, "indexOf", "([BIII)I", prog_23_method_22_code, 4, (some .int), 4),
  (16, "indexOfChar", "([BIII)I", prog_23_method_23_code, 6, (some .int), 4),
  (17, "checkIndex", "(IILjava/util/function/BiFunction;)I", prog_30_method_11_code, 3, (some .int), 3)]
def mpo : List (Nat × Nat × Nat × Nat × Nat) := [(0, 3, 88, 87, 0), (1, 0, 746, 744, 745), (2, 0, 750, 748, 749), (3, 0, 842, 840, 841), (4, 0, 771, 769, 770), (5, 0, 785, 783, 784), (6, 0, 793, 791, 792), (7, 0, 945, 943, 944), (8, 0, 941, 939, 940), (9, 0, 965, 963, 964), (10, 3, 257, 256, 0), (11, 3, 283, 282, 0), (12, 0, 735, 733, 734), (13, 0, 949, 947, 948), (14, 2, 952, 951, 0), (15, 2, 955, 954, 0), (16, 3, 230, 229, 0), (17, 0, 988, 986, 987), (18, 1, 993, 992, 0), (19, 2, 996, 995, 0), (20, 3, 240, 239, 0), (21, 0, 1165, 1163, 1164), (22, 1, 1169, 1168, 0), (23, 1, 1173, 1172, 0), (24, 3, 277, 276, 0), (25, 0, 400, 398, 399), (26, 0, 404, 402, 403), (27, 0, 408, 406, 407), (28, 0, 660, 658, 659), (29, 0, 682, 680, 681), (30, 0, 777, 775, 776), (31, 0, 805, 803, 804), (32, 0, 927, 925, 926), (33, 0, 825, 823, 824), (34, 0, 829, 827, 828), (35, 1, 412, 411, 0), (36, 1, 416, 415, 0), (37, 1, 420, 419, 0), (38, 3, 37, 36, 0), (39, 0, 479, 477, 478), (40, 1, 596, 595, 0), (41, 1, 647, 646, 0), (42, 1, 656, 655, 0), (43, 1, 666, 665, 0), (44, 1, 673, 672, 0), (45, 1, 678, 677, 0), (46, 1, 687, 686, 0), (47, 1, 694, 693, 0), (48, 1, 700, 699, 0), (49, 1, 706, 705, 0), (50, 1, 710, 709, 0), (51, 1, 714, 713, 0), (52, 1, 718, 717, 0), (53, 1, 722, 721, 0), (54, 1, 727, 726, 0), (55, 1, 652, 651, 0), (56, 1, 639, 638, 0), (57, 1, 635, 634, 0), (58, 1, 601, 600, 0), (59, 1, 643, 642, 0), (60, 1, 630, 629, 0), (61, 3, 214, 213, 0), (62, 0, 1033, 1031, 1032), (63, 1, 1037, 1036, 0), (64, 1, 1041, 1040, 0), (65, 1, 1045, 1044, 0), (66, 3, 43, 42, 0), (67, 0, 471, 469, 470), (68, 0, 484, 482, 483), (69, 0, 488, 486, 487), (70, 0, 605, 603, 604), (71, 1, 498, 497, 0), (72, 1, 505, 504, 0), (73, 2, 491, 490, 0), (74, 2, 494, 493, 0), (75, 2, 501, 500, 0), (76, 3, 170, 169, 0), (77, 0, 758, 756, 757), (78, 0, 916, 914, 915), (79, 1, 920, 919, 0), (80, 1, 932, 931, 0), (81, 1, 937, 936, 0), (82, 1, 961, 960, 0), (83, 1, 970, 969, 0), (84, 3, 129, 128, 0), (85, 0, 754, 752, 753), (86, 0, 817, 815, 816), (87, 0, 883, 881, 882), (88, 0, 1004, 1002, 1003), (89, 0, 1025, 1023, 1024), (90, 1, 849, 848, 0), (91, 1, 862, 861, 0), (92, 0, 892, 890, 891), (93, 0, 904, 902, 903), (94, 1, 1008, 1007, 0), (95, 1, 821, 820, 0), (96, 1, 833, 832, 0), (97, 1, 858, 857, 0), (98, 1, 853, 852, 0), (99, 1, 866, 865, 0), (100, 1, 871, 870, 0), (101, 3, 29, 28, 0), (102, 0, 467, 465, 466), (103, 0, 475, 473, 474), (104, 0, 763, 761, 762), (105, 0, 767, 765, 766), (106, 0, 781, 779, 780), (107, 0, 789, 787, 788), (108, 0, 797, 795, 796), (109, 0, 801, 799, 800), (110, 0, 809, 807, 808), (111, 0, 878, 876, 877), (112, 0, 887, 885, 886), (113, 0, 896, 894, 895), (114, 0, 1099, 1097, 1098), (115, 0, 908, 906, 907), (116, 0, 975, 973, 974), (117, 0, 979, 977, 978), (118, 0, 984, 982, 983), (119, 0, 1000, 998, 999), (120, 0, 1013, 1011, 1012), (121, 0, 1017, 1015, 1016), (122, 0, 1021, 1019, 1020), (123, 0, 1029, 1027, 1028), (124, 0, 1049, 1047, 1048), (125, 0, 1059, 1057, 1058), (126, 0, 1076, 1074, 1075), (127, 0, 1086, 1084, 1085), (128, 0, 1091, 1089, 1090), (129, 1, 742, 741, 0), (130, 1, 813, 812, 0), (131, 1, 900, 899, 0), (132, 1, 1067, 1066, 0), (133, 1, 1082, 1081, 0), (134, 2, 911, 910, 0), (135, 2, 1052, 1051, 0), (136, 2, 1062, 1061, 0), (137, 2, 1055, 1054, 0), (138, 0, 1178, 1176, 1177), (139, 0, 1182, 1180, 1181), (140, 1, 1187, 1185, 0), (141, 3, 1191, 1190, 0), (142, 2, 1343, 1342, 0), (143, 2, 1350, 1349, 0), (144, 2, 1347, 1346, 0), (145, 2, 1355, 1354, 0), (146, 1, 1340, 1339, 0), (147, 1, 1371, 1370, 0), (148, 1, 1383, 1382, 0), (149, 1, 1367, 1366, 0), (150, 1, 1379, 1378, 0), (151, 1, 1447, 1446, 0), (152, 1, 1363, 1362, 0), (153, 1, 1359, 1358, 0), (154, 2, 1466, 1465, 0), (155, 1, 1219, 1218, 0), (156, 1, 1375, 1374, 0), (157, 1, 1419, 1418, 0), (158, 0, 1336, 1334, 1335), (159, 1, 1451, 1450, 0), (160, 1, 1407, 1406, 0), (161, 1, 1387, 1386, 0), (162, 1, 1391, 1390, 0), (163, 1, 1395, 1394, 0), (164, 1, 1399, 1398, 0), (165, 1, 1403, 1402, 0), (166, 1, 1411, 1410, 0), (167, 1, 1415, 1414, 0), (168, 1, 1443, 1442, 0), (169, 1, 1423, 1422, 0), (170, 1, 1427, 1426, 0), (171, 1, 1431, 1430, 0), (172, 1, 1435, 1434, 0), (173, 1, 1439, 1438, 0), (174, 1, 1636, 1635, 0), (175, 2, 1639, 1638, 0), (176, 1, 1463, 1462, 0), (177, 1, 1455, 1454, 0), (178, 1, 1474, 1473, 0), (179, 1, 1478, 1477, 0), (180, 1, 1490, 1489, 0), (181, 1, 1494, 1493, 0), (182, 1, 1498, 1497, 0), (183, 1, 1486, 1485, 0), (184, 2, 1562, 1561, 0), (185, 1, 1506, 1505, 0), (186, 1, 1514, 1513, 0), (187, 1, 1522, 1521, 0), (188, 1, 1518, 1517, 0), (189, 1, 1510, 1509, 0), (190, 1, 1570, 1569, 0), (191, 1, 1555, 1554, 0), (192, 1, 1559, 1558, 0), (193, 1, 1578, 1577, 0), (194, 1, 1551, 1550, 0), (195, 1, 1574, 1573, 0), (196, 1, 1566, 1565, 0), (197, 1, 1582, 1581, 0), (198, 1, 1502, 1501, 0), (199, 0, 1459, 1457, 1458), (200, 0, 1482, 1480, 1481), (201, 0, 1526, 1524, 1525), (202, 0, 1531, 1529, 1530), (203, 0, 1535, 1533, 1534), (204, 1, 1543, 1542, 0), (205, 0, 1539, 1537, 1538), (206, 0, 1547, 1545, 1546), (207, 0, 1586, 1584, 1585), (208, 0, 1591, 1589, 1590), (209, 1, 1599, 1598, 0), (210, 0, 1595, 1593, 1594), (211, 1, 1608, 1607, 0), (212, 0, 1603, 1601, 1602), (213, 1, 1612, 1611, 0), (214, 1, 1632, 1631, 0), (215, 1, 1624, 1623, 0), (216, 1, 1628, 1627, 0), (217, 1, 1643, 1642, 0), (218, 2, 1619, 1618, 0), (219, 0, 1616, 1614, 1615), (220, 0, 1647, 1645, 1646), (221, 0, 1651, 1649, 1650), (222, 1, 1659, 1658, 0), (223, 0, 1655, 1653, 1654), (224, 0, 1663, 1661, 1662), (225, 1, 1470, 1469, 0), (226, 0, 1667, 1665, 1666), (227, 0, 1671, 1669, 1670), (228, 0, 1675, 1673, 1674), (229, 1, 1687, 1686, 0), (230, 1, 1683, 1682, 0), (231, 1, 1691, 1690, 0), (232, 1, 1695, 1694, 0), (233, 0, 1679, 1677, 1678), (234, 0, 1699, 1697, 1698), (235, 1, 1708, 1707, 0), (236, 0, 1703, 1701, 1702), (237, 0, 1717, 1715, 1716), (238, 0, 1721, 1719, 1720), (239, 0, 1725, 1723, 1724), (240, 2, 537, 536, 0), (241, 2, 540, 539, 0), (242, 0, 524, 522, 523), (243, 0, 528, 526, 527), (244, 0, 518, 516, 517), (245, 0, 610, 608, 609), (246, 0, 510, 508, 509), (247, 0, 514, 512, 513), (248, 2, 616, 615, 0), (249, 2, 613, 612, 0), (250, 2, 534, 533, 0), (251, 2, 531, 530, 0), (252, 2, 543, 542, 0), (253, 2, 619, 618, 0)]
def mD (mi : Nat) : Nat × String × String × ByteArray × Nat × Option FieldType × Nat := mtb.getD mi (0, "", "", .empty, 0, none, 0)
def mO (mi : Nat) : Nat := (mD mi).1
def mNm (mi : Nat) : String := (mD mi).2.1
def mDs (mi : Nat) : String := (mD mi).2.2.1
def mCd (mi : Nat) : ByteArray := (mD mi).2.2.2.1
def mMx (mi : Nat) : Nat := (mD mi).2.2.2.2.1
def mRt (mi : Nat) : Option FieldType := (mD mi).2.2.2.2.2.1
def mNp (mi : Nat) : Nat := (mD mi).2.2.2.2.2.2
def my (mi : Nat) : MethodName := ⟨ownOf (mO mi), mNm mi, mDs mi⟩
def nM : Nat := 254
/-- how a method is called: 0 virtual, 1 private, 2 static, 3 a constructor -/
def mKd (mi : Nat) : Nat := (mpo.getD mi (0, 9, 0, 0, 0)).2.1
theorem tt_lay : ∀ q ∈ layP, tables_1[q.2.2]? = some (u_lay (cC q.1) (cT q.1) q.2.1) := by decide +kernel
theorem tt_layAll : ∀ ci, ci < 13 → ∀ k, k < cF ci → ∃ q ∈ layP, q.1 = ci ∧ q.2.1 = k := by decide +kernel
theorem tt_ty : ∀ ci, ci < 13 → ∀ k, k < cF ci → parseFieldDescriptor (cT ci k).2.2.1 = some (cY ci k) := by decide +kernel
theorem tt_nm : ∀ ci, ci < 13 → ∀ a, a < cF ci → ∀ b, b < cF ci → a ≠ b → (cT ci a).2.1 ≠ (cT ci b).2.1 := by decide +kernel
theorem tt_fk : ∀ ci, ci < 13 → ∀ k, k < cF ci → tyOk (fK ci k) (cY ci k) = true := by decide +kernel
theorem tt_flk : ∀ q ∈ flk, tables_1[q.2.2.2.2]? = some (.fieldLink (ownOf q.1) q.2.1 (cT q.2.2.1 q.2.2.2.1).1 (cT q.2.2.1 q.2.2.2.1).2.1 (cT q.2.2.1 q.2.2.2.1).2.2.1) ∧ q.2.2.1 < 13 ∧ q.2.2.2.1 < cF q.2.2.1 := by decide +kernel
theorem tt_dcl : ∀ ci, ci < 13 → ∀ k, k < cF ci → (cT ci k).1 = cC ci ∧ ownOf ci = cC ci := by decide +kernel
def slF (k : Nat) : String × String × String := match k with
  | 0 => ("java/lang/String", "value", "[B")
  | 1 => ("java/lang/String", "coder", "B")
  | 2 => ("java/lang/String", "COMPACT_STRINGS", "Z")
  | _ => ("jdk/internal/util/Preconditions", "SIOOBE_FORMATTER", "Ljava/util/function/BiFunction;")
theorem tt_slk : ∀ q ∈ slk, tables_1[q.2.2.2]? = some (.fieldLink (ownOf q.1) q.2.1 (slF q.2.2.1).1 (slF q.2.2.1).2.1 (slF q.2.2.1).2.2) := by decide +kernel
theorem tt_mlk : ∀ q ∈ mlk, q.2.2.1 < nM ∧ tables_1[q.2.2.2.2]? = some (if q.2.2.2.1 = 0 then .methodLink (ownOf q.1) q.2.1 (my q.2.2.1) else .methodLinkNest (ownOf q.1) q.2.1 (my q.2.2.1) "StairWays") := by decide +kernel
theorem tt_olk : ∀ q ∈ olk, tables_1[q.2.2]? = some (.methodLink (ownOf q.1) q.2.1 objectInit) := by decide +kernel
theorem tt_alk : ∀ q ∈ alk, tables_1[q.2.2]? = some (.methodLink (ownOf q.1) q.2.1 arraycopyName) := by decide +kernel
theorem tt_clk : ∀ q ∈ clk, tables_1[q.2.2.2]? = some (.classLink (ownOf q.1) q.2.1 (cC q.2.2.1)) ∧ q.2.2.1 < 13 := by decide +kernel
theorem tt_cst : ∀ q ∈ cst, tables_1[q.2.2.2]? = some (.constant (ownOf q.1) q.2.1 q.2.2.1) := by decide +kernel
theorem tt_cstl : ∀ q ∈ cstl, tables_1[q.2.2.2]? = some (.constantLong (ownOf q.1) q.2.1 q.2.2.1) := by decide +kernel
theorem tt_srf : ∀ q ∈ srf, tables_1[q.2.2.2]? = some (.stringRef (ownOf q.1) q.2.1 (stx.getD q.2.2.1 "")) ∧ q.2.2.1 < 23 := by decide +kernel
theorem tt_in : ∀ q ∈ inP, tables_1[q.2]? = some (.initialized (ownOf q.1)) := by decide +kernel
theorem tt_nw : ∀ q ∈ nwP, tables_1[q.2]? = some (.instantiable (cC q.1) (cF q.1)) := by decide +kernel
theorem tt_mo : ∀ mi, mi < nM → mO mi < 18 ∧ (mpo.getD mi (0, 9, 0, 0, 0)).1 = mi := by decide +kernel
theorem tt_pf : ∀ mi, mi < nM → plainFor (my mi) = true := by decide +kernel
theorem tt_pl : ∀ k, k < 18 → ownOf k ≠ "java/lang/invoke/MethodHandle" ∧ ownOf k ≠ "java/lang/invoke/VarHandle" := by decide +kernel
theorem tt_np : ∀ mi, mi < nM → (parseMethodDescriptor (mDs mi)).map (fun d => d.parameters.length) = some (mNp mi) := by decide +kernel
theorem tt_mx : ∀ mi, mi < nM → mMx mi ≤ 20 := by decide +kernel
theorem tm1 {w : Cond} (h : w ∈ tables_1_1) : w ∈ tables_1 := List.mem_append_left _ h
theorem tm2 {w : Cond} (h : w ∈ tables_1_2) : w ∈ tables_1 := List.mem_append_right _ (List.mem_append_left _ h)
theorem tm3 {w : Cond} (h : w ∈ tables_1_3) : w ∈ tables_1 := List.mem_append_right _ (List.mem_append_right _ (List.mem_append_left _ h))
theorem tm4 {w : Cond} (h : w ∈ tables_1_4) : w ∈ tables_1 := List.mem_append_right _ (List.mem_append_right _ (List.mem_append_right _ (List.mem_append_left _ h)))
theorem tm5 {w : Cond} (h : w ∈ tables_1_5) : w ∈ tables_1 := List.mem_append_right _ (List.mem_append_right _ (List.mem_append_right _ (List.mem_append_right _ (List.mem_append_left _ h))))
theorem tm6 {w : Cond} (h : w ∈ tables_1_6) : w ∈ tables_1 := List.mem_append_right _ (List.mem_append_right _ (List.mem_append_right _ (List.mem_append_right _ (List.mem_append_right _ (List.mem_append_left _ h)))))
theorem tm7 {w : Cond} (h : w ∈ tables_1_7) : w ∈ tables_1 := List.mem_append_right _ (List.mem_append_right _ (List.mem_append_right _ (List.mem_append_right _ (List.mem_append_right _ (List.mem_append_right _ (List.mem_append_left _ h))))))
theorem tm8 {w : Cond} (h : w ∈ tables_1_8) : w ∈ tables_1 := List.mem_append_right _ (List.mem_append_right _ (List.mem_append_right _ (List.mem_append_right _ (List.mem_append_right _ (List.mem_append_right _ (List.mem_append_right _ (h)))))))
theorem mc_0 : Cond.code (my 0) (mCd 0) (mMx 0) (mRt 0) ∈ tables_1 := tm1 (List.mem_of_getElem? (i := 88) rfl)
theorem mc_1 : Cond.code (my 1) (mCd 1) (mMx 1) (mRt 1) ∈ tables_1 := tm4 (List.mem_of_getElem? (i := 26) rfl)
theorem mc_2 : Cond.code (my 2) (mCd 2) (mMx 2) (mRt 2) ∈ tables_1 := tm4 (List.mem_of_getElem? (i := 30) rfl)
theorem mc_3 : Cond.code (my 3) (mCd 3) (mMx 3) (mRt 3) ∈ tables_1 := tm4 (List.mem_of_getElem? (i := 122) rfl)
theorem mc_4 : Cond.code (my 4) (mCd 4) (mMx 4) (mRt 4) ∈ tables_1 := tm4 (List.mem_of_getElem? (i := 51) rfl)
theorem mc_5 : Cond.code (my 5) (mCd 5) (mMx 5) (mRt 5) ∈ tables_1 := tm4 (List.mem_of_getElem? (i := 65) rfl)
theorem mc_6 : Cond.code (my 6) (mCd 6) (mMx 6) (mRt 6) ∈ tables_1 := tm4 (List.mem_of_getElem? (i := 73) rfl)
theorem mc_7 : Cond.code (my 7) (mCd 7) (mMx 7) (mRt 7) ∈ tables_1 := tm4 (List.mem_of_getElem? (i := 225) rfl)
theorem mc_8 : Cond.code (my 8) (mCd 8) (mMx 8) (mRt 8) ∈ tables_1 := tm4 (List.mem_of_getElem? (i := 221) rfl)
theorem mc_9 : Cond.code (my 9) (mCd 9) (mMx 9) (mRt 9) ∈ tables_1 := tm5 (List.mem_of_getElem? (i := 5) rfl)
theorem mc_10 : Cond.code (my 10) (mCd 10) (mMx 10) (mRt 10) ∈ tables_1 := tm2 (List.mem_of_getElem? (i := 17) rfl)
theorem mc_11 : Cond.code (my 11) (mCd 11) (mMx 11) (mRt 11) ∈ tables_1 := tm2 (List.mem_of_getElem? (i := 43) rfl)
theorem mc_12 : Cond.code (my 12) (mCd 12) (mMx 12) (mRt 12) ∈ tables_1 := tm4 (List.mem_of_getElem? (i := 15) rfl)
theorem mc_13 : Cond.code (my 13) (mCd 13) (mMx 13) (mRt 13) ∈ tables_1 := tm4 (List.mem_of_getElem? (i := 229) rfl)
theorem mc_14 : Cond.code (my 14) (mCd 14) (mMx 14) (mRt 14) ∈ tables_1 := tm4 (List.mem_of_getElem? (i := 232) rfl)
theorem mc_15 : Cond.code (my 15) (mCd 15) (mMx 15) (mRt 15) ∈ tables_1 := tm4 (List.mem_of_getElem? (i := 235) rfl)
theorem mc_16 : Cond.code (my 16) (mCd 16) (mMx 16) (mRt 16) ∈ tables_1 := tm1 (List.mem_of_getElem? (i := 230) rfl)
theorem mc_17 : Cond.code (my 17) (mCd 17) (mMx 17) (mRt 17) ∈ tables_1 := tm5 (List.mem_of_getElem? (i := 28) rfl)
theorem mc_18 : Cond.code (my 18) (mCd 18) (mMx 18) (mRt 18) ∈ tables_1 := tm5 (List.mem_of_getElem? (i := 33) rfl)
theorem mc_19 : Cond.code (my 19) (mCd 19) (mMx 19) (mRt 19) ∈ tables_1 := tm5 (List.mem_of_getElem? (i := 36) rfl)
theorem mc_20 : Cond.code (my 20) (mCd 20) (mMx 20) (mRt 20) ∈ tables_1 := tm2 (List.mem_of_getElem? (i := 0) rfl)
theorem mc_21 : Cond.code (my 21) (mCd 21) (mMx 21) (mRt 21) ∈ tables_1 := tm5 (List.mem_of_getElem? (i := 205) rfl)
theorem mc_22 : Cond.code (my 22) (mCd 22) (mMx 22) (mRt 22) ∈ tables_1 := tm5 (List.mem_of_getElem? (i := 209) rfl)
theorem mc_23 : Cond.code (my 23) (mCd 23) (mMx 23) (mRt 23) ∈ tables_1 := tm5 (List.mem_of_getElem? (i := 213) rfl)
theorem mc_24 : Cond.code (my 24) (mCd 24) (mMx 24) (mRt 24) ∈ tables_1 := tm2 (List.mem_of_getElem? (i := 37) rfl)
theorem mc_25 : Cond.code (my 25) (mCd 25) (mMx 25) (mRt 25) ∈ tables_1 := tm2 (List.mem_of_getElem? (i := 160) rfl)
theorem mc_26 : Cond.code (my 26) (mCd 26) (mMx 26) (mRt 26) ∈ tables_1 := tm2 (List.mem_of_getElem? (i := 164) rfl)
theorem mc_27 : Cond.code (my 27) (mCd 27) (mMx 27) (mRt 27) ∈ tables_1 := tm2 (List.mem_of_getElem? (i := 168) rfl)
theorem mc_28 : Cond.code (my 28) (mCd 28) (mMx 28) (mRt 28) ∈ tables_1 := tm3 (List.mem_of_getElem? (i := 180) rfl)
theorem mc_29 : Cond.code (my 29) (mCd 29) (mMx 29) (mRt 29) ∈ tables_1 := tm3 (List.mem_of_getElem? (i := 202) rfl)
theorem mc_30 : Cond.code (my 30) (mCd 30) (mMx 30) (mRt 30) ∈ tables_1 := tm4 (List.mem_of_getElem? (i := 57) rfl)
theorem mc_31 : Cond.code (my 31) (mCd 31) (mMx 31) (mRt 31) ∈ tables_1 := tm4 (List.mem_of_getElem? (i := 85) rfl)
theorem mc_32 : Cond.code (my 32) (mCd 32) (mMx 32) (mRt 32) ∈ tables_1 := tm4 (List.mem_of_getElem? (i := 207) rfl)
theorem mc_33 : Cond.code (my 33) (mCd 33) (mMx 33) (mRt 33) ∈ tables_1 := tm4 (List.mem_of_getElem? (i := 105) rfl)
theorem mc_34 : Cond.code (my 34) (mCd 34) (mMx 34) (mRt 34) ∈ tables_1 := tm4 (List.mem_of_getElem? (i := 109) rfl)
theorem mc_35 : Cond.code (my 35) (mCd 35) (mMx 35) (mRt 35) ∈ tables_1 := tm2 (List.mem_of_getElem? (i := 172) rfl)
theorem mc_36 : Cond.code (my 36) (mCd 36) (mMx 36) (mRt 36) ∈ tables_1 := tm2 (List.mem_of_getElem? (i := 176) rfl)
theorem mc_37 : Cond.code (my 37) (mCd 37) (mMx 37) (mRt 37) ∈ tables_1 := tm2 (List.mem_of_getElem? (i := 180) rfl)
theorem mc_38 : Cond.code (my 38) (mCd 38) (mMx 38) (mRt 38) ∈ tables_1 := tm1 (List.mem_of_getElem? (i := 37) rfl)
theorem mc_39 : Cond.code (my 39) (mCd 39) (mMx 39) (mRt 39) ∈ tables_1 := tm2 (List.mem_of_getElem? (i := 239) rfl)
theorem mc_40 : Cond.code (my 40) (mCd 40) (mMx 40) (mRt 40) ∈ tables_1 := tm3 (List.mem_of_getElem? (i := 116) rfl)
theorem mc_41 : Cond.code (my 41) (mCd 41) (mMx 41) (mRt 41) ∈ tables_1 := tm3 (List.mem_of_getElem? (i := 167) rfl)
theorem mc_42 : Cond.code (my 42) (mCd 42) (mMx 42) (mRt 42) ∈ tables_1 := tm3 (List.mem_of_getElem? (i := 176) rfl)
theorem mc_43 : Cond.code (my 43) (mCd 43) (mMx 43) (mRt 43) ∈ tables_1 := tm3 (List.mem_of_getElem? (i := 186) rfl)
theorem mc_44 : Cond.code (my 44) (mCd 44) (mMx 44) (mRt 44) ∈ tables_1 := tm3 (List.mem_of_getElem? (i := 193) rfl)
theorem mc_45 : Cond.code (my 45) (mCd 45) (mMx 45) (mRt 45) ∈ tables_1 := tm3 (List.mem_of_getElem? (i := 198) rfl)
theorem mc_46 : Cond.code (my 46) (mCd 46) (mMx 46) (mRt 46) ∈ tables_1 := tm3 (List.mem_of_getElem? (i := 207) rfl)
theorem mc_47 : Cond.code (my 47) (mCd 47) (mMx 47) (mRt 47) ∈ tables_1 := tm3 (List.mem_of_getElem? (i := 214) rfl)
theorem mc_48 : Cond.code (my 48) (mCd 48) (mMx 48) (mRt 48) ∈ tables_1 := tm3 (List.mem_of_getElem? (i := 220) rfl)
theorem mc_49 : Cond.code (my 49) (mCd 49) (mMx 49) (mRt 49) ∈ tables_1 := tm3 (List.mem_of_getElem? (i := 226) rfl)
theorem mc_50 : Cond.code (my 50) (mCd 50) (mMx 50) (mRt 50) ∈ tables_1 := tm3 (List.mem_of_getElem? (i := 230) rfl)
theorem mc_51 : Cond.code (my 51) (mCd 51) (mMx 51) (mRt 51) ∈ tables_1 := tm3 (List.mem_of_getElem? (i := 234) rfl)
theorem mc_52 : Cond.code (my 52) (mCd 52) (mMx 52) (mRt 52) ∈ tables_1 := tm3 (List.mem_of_getElem? (i := 238) rfl)
theorem mc_53 : Cond.code (my 53) (mCd 53) (mMx 53) (mRt 53) ∈ tables_1 := tm4 (List.mem_of_getElem? (i := 2) rfl)
theorem mc_54 : Cond.code (my 54) (mCd 54) (mMx 54) (mRt 54) ∈ tables_1 := tm4 (List.mem_of_getElem? (i := 7) rfl)
theorem mc_55 : Cond.code (my 55) (mCd 55) (mMx 55) (mRt 55) ∈ tables_1 := tm3 (List.mem_of_getElem? (i := 172) rfl)
theorem mc_56 : Cond.code (my 56) (mCd 56) (mMx 56) (mRt 56) ∈ tables_1 := tm3 (List.mem_of_getElem? (i := 159) rfl)
theorem mc_57 : Cond.code (my 57) (mCd 57) (mMx 57) (mRt 57) ∈ tables_1 := tm3 (List.mem_of_getElem? (i := 155) rfl)
theorem mc_58 : Cond.code (my 58) (mCd 58) (mMx 58) (mRt 58) ∈ tables_1 := tm3 (List.mem_of_getElem? (i := 121) rfl)
theorem mc_59 : Cond.code (my 59) (mCd 59) (mMx 59) (mRt 59) ∈ tables_1 := tm3 (List.mem_of_getElem? (i := 163) rfl)
theorem mc_60 : Cond.code (my 60) (mCd 60) (mMx 60) (mRt 60) ∈ tables_1 := tm3 (List.mem_of_getElem? (i := 150) rfl)
theorem mc_61 : Cond.code (my 61) (mCd 61) (mMx 61) (mRt 61) ∈ tables_1 := tm1 (List.mem_of_getElem? (i := 214) rfl)
theorem mc_62 : Cond.code (my 62) (mCd 62) (mMx 62) (mRt 62) ∈ tables_1 := tm5 (List.mem_of_getElem? (i := 73) rfl)
theorem mc_63 : Cond.code (my 63) (mCd 63) (mMx 63) (mRt 63) ∈ tables_1 := tm5 (List.mem_of_getElem? (i := 77) rfl)
theorem mc_64 : Cond.code (my 64) (mCd 64) (mMx 64) (mRt 64) ∈ tables_1 := tm5 (List.mem_of_getElem? (i := 81) rfl)
theorem mc_65 : Cond.code (my 65) (mCd 65) (mMx 65) (mRt 65) ∈ tables_1 := tm5 (List.mem_of_getElem? (i := 85) rfl)
theorem mc_66 : Cond.code (my 66) (mCd 66) (mMx 66) (mRt 66) ∈ tables_1 := tm1 (List.mem_of_getElem? (i := 43) rfl)
theorem mc_67 : Cond.code (my 67) (mCd 67) (mMx 67) (mRt 67) ∈ tables_1 := tm2 (List.mem_of_getElem? (i := 231) rfl)
theorem mc_68 : Cond.code (my 68) (mCd 68) (mMx 68) (mRt 68) ∈ tables_1 := tm3 (List.mem_of_getElem? (i := 4) rfl)
theorem mc_69 : Cond.code (my 69) (mCd 69) (mMx 69) (mRt 69) ∈ tables_1 := tm3 (List.mem_of_getElem? (i := 8) rfl)
theorem mc_70 : Cond.code (my 70) (mCd 70) (mMx 70) (mRt 70) ∈ tables_1 := tm3 (List.mem_of_getElem? (i := 125) rfl)
theorem mc_71 : Cond.code (my 71) (mCd 71) (mMx 71) (mRt 71) ∈ tables_1 := tm3 (List.mem_of_getElem? (i := 18) rfl)
theorem mc_72 : Cond.code (my 72) (mCd 72) (mMx 72) (mRt 72) ∈ tables_1 := tm3 (List.mem_of_getElem? (i := 25) rfl)
theorem mc_73 : Cond.code (my 73) (mCd 73) (mMx 73) (mRt 73) ∈ tables_1 := tm3 (List.mem_of_getElem? (i := 11) rfl)
theorem mc_74 : Cond.code (my 74) (mCd 74) (mMx 74) (mRt 74) ∈ tables_1 := tm3 (List.mem_of_getElem? (i := 14) rfl)
theorem mc_75 : Cond.code (my 75) (mCd 75) (mMx 75) (mRt 75) ∈ tables_1 := tm3 (List.mem_of_getElem? (i := 21) rfl)
theorem mc_76 : Cond.code (my 76) (mCd 76) (mMx 76) (mRt 76) ∈ tables_1 := tm1 (List.mem_of_getElem? (i := 170) rfl)
theorem mc_77 : Cond.code (my 77) (mCd 77) (mMx 77) (mRt 77) ∈ tables_1 := tm4 (List.mem_of_getElem? (i := 38) rfl)
theorem mc_78 : Cond.code (my 78) (mCd 78) (mMx 78) (mRt 78) ∈ tables_1 := tm4 (List.mem_of_getElem? (i := 196) rfl)
theorem mc_79 : Cond.code (my 79) (mCd 79) (mMx 79) (mRt 79) ∈ tables_1 := tm4 (List.mem_of_getElem? (i := 200) rfl)
theorem mc_80 : Cond.code (my 80) (mCd 80) (mMx 80) (mRt 80) ∈ tables_1 := tm4 (List.mem_of_getElem? (i := 212) rfl)
theorem mc_81 : Cond.code (my 81) (mCd 81) (mMx 81) (mRt 81) ∈ tables_1 := tm4 (List.mem_of_getElem? (i := 217) rfl)
theorem mc_82 : Cond.code (my 82) (mCd 82) (mMx 82) (mRt 82) ∈ tables_1 := tm5 (List.mem_of_getElem? (i := 1) rfl)
theorem mc_83 : Cond.code (my 83) (mCd 83) (mMx 83) (mRt 83) ∈ tables_1 := tm5 (List.mem_of_getElem? (i := 10) rfl)
theorem mc_84 : Cond.code (my 84) (mCd 84) (mMx 84) (mRt 84) ∈ tables_1 := tm1 (List.mem_of_getElem? (i := 129) rfl)
theorem mc_85 : Cond.code (my 85) (mCd 85) (mMx 85) (mRt 85) ∈ tables_1 := tm4 (List.mem_of_getElem? (i := 34) rfl)
theorem mc_86 : Cond.code (my 86) (mCd 86) (mMx 86) (mRt 86) ∈ tables_1 := tm4 (List.mem_of_getElem? (i := 97) rfl)
theorem mc_87 : Cond.code (my 87) (mCd 87) (mMx 87) (mRt 87) ∈ tables_1 := tm4 (List.mem_of_getElem? (i := 163) rfl)
theorem mc_88 : Cond.code (my 88) (mCd 88) (mMx 88) (mRt 88) ∈ tables_1 := tm5 (List.mem_of_getElem? (i := 44) rfl)
theorem mc_89 : Cond.code (my 89) (mCd 89) (mMx 89) (mRt 89) ∈ tables_1 := tm5 (List.mem_of_getElem? (i := 65) rfl)
theorem mc_90 : Cond.code (my 90) (mCd 90) (mMx 90) (mRt 90) ∈ tables_1 := tm4 (List.mem_of_getElem? (i := 129) rfl)
theorem mc_91 : Cond.code (my 91) (mCd 91) (mMx 91) (mRt 91) ∈ tables_1 := tm4 (List.mem_of_getElem? (i := 142) rfl)
theorem mc_92 : Cond.code (my 92) (mCd 92) (mMx 92) (mRt 92) ∈ tables_1 := tm4 (List.mem_of_getElem? (i := 172) rfl)
theorem mc_93 : Cond.code (my 93) (mCd 93) (mMx 93) (mRt 93) ∈ tables_1 := tm4 (List.mem_of_getElem? (i := 184) rfl)
theorem mc_94 : Cond.code (my 94) (mCd 94) (mMx 94) (mRt 94) ∈ tables_1 := tm5 (List.mem_of_getElem? (i := 48) rfl)
theorem mc_95 : Cond.code (my 95) (mCd 95) (mMx 95) (mRt 95) ∈ tables_1 := tm4 (List.mem_of_getElem? (i := 101) rfl)
theorem mc_96 : Cond.code (my 96) (mCd 96) (mMx 96) (mRt 96) ∈ tables_1 := tm4 (List.mem_of_getElem? (i := 113) rfl)
theorem mc_97 : Cond.code (my 97) (mCd 97) (mMx 97) (mRt 97) ∈ tables_1 := tm4 (List.mem_of_getElem? (i := 138) rfl)
theorem mc_98 : Cond.code (my 98) (mCd 98) (mMx 98) (mRt 98) ∈ tables_1 := tm4 (List.mem_of_getElem? (i := 133) rfl)
theorem mc_99 : Cond.code (my 99) (mCd 99) (mMx 99) (mRt 99) ∈ tables_1 := tm4 (List.mem_of_getElem? (i := 146) rfl)
theorem mc_100 : Cond.code (my 100) (mCd 100) (mMx 100) (mRt 100) ∈ tables_1 := tm4 (List.mem_of_getElem? (i := 151) rfl)
theorem mc_101 : Cond.code (my 101) (mCd 101) (mMx 101) (mRt 101) ∈ tables_1 := tm1 (List.mem_of_getElem? (i := 29) rfl)
theorem mc_102 : Cond.code (my 102) (mCd 102) (mMx 102) (mRt 102) ∈ tables_1 := tm2 (List.mem_of_getElem? (i := 227) rfl)
theorem mc_103 : Cond.code (my 103) (mCd 103) (mMx 103) (mRt 103) ∈ tables_1 := tm2 (List.mem_of_getElem? (i := 235) rfl)
theorem mc_104 : Cond.code (my 104) (mCd 104) (mMx 104) (mRt 104) ∈ tables_1 := tm4 (List.mem_of_getElem? (i := 43) rfl)
theorem mc_105 : Cond.code (my 105) (mCd 105) (mMx 105) (mRt 105) ∈ tables_1 := tm4 (List.mem_of_getElem? (i := 47) rfl)
theorem mc_106 : Cond.code (my 106) (mCd 106) (mMx 106) (mRt 106) ∈ tables_1 := tm4 (List.mem_of_getElem? (i := 61) rfl)
theorem mc_107 : Cond.code (my 107) (mCd 107) (mMx 107) (mRt 107) ∈ tables_1 := tm4 (List.mem_of_getElem? (i := 69) rfl)
theorem mc_108 : Cond.code (my 108) (mCd 108) (mMx 108) (mRt 108) ∈ tables_1 := tm4 (List.mem_of_getElem? (i := 77) rfl)
theorem mc_109 : Cond.code (my 109) (mCd 109) (mMx 109) (mRt 109) ∈ tables_1 := tm4 (List.mem_of_getElem? (i := 81) rfl)
theorem mc_110 : Cond.code (my 110) (mCd 110) (mMx 110) (mRt 110) ∈ tables_1 := tm4 (List.mem_of_getElem? (i := 89) rfl)
theorem mc_111 : Cond.code (my 111) (mCd 111) (mMx 111) (mRt 111) ∈ tables_1 := tm4 (List.mem_of_getElem? (i := 158) rfl)
theorem mc_112 : Cond.code (my 112) (mCd 112) (mMx 112) (mRt 112) ∈ tables_1 := tm4 (List.mem_of_getElem? (i := 167) rfl)
theorem mc_113 : Cond.code (my 113) (mCd 113) (mMx 113) (mRt 113) ∈ tables_1 := tm4 (List.mem_of_getElem? (i := 176) rfl)
theorem mc_114 : Cond.code (my 114) (mCd 114) (mMx 114) (mRt 114) ∈ tables_1 := tm5 (List.mem_of_getElem? (i := 139) rfl)
theorem mc_115 : Cond.code (my 115) (mCd 115) (mMx 115) (mRt 115) ∈ tables_1 := tm4 (List.mem_of_getElem? (i := 188) rfl)
theorem mc_116 : Cond.code (my 116) (mCd 116) (mMx 116) (mRt 116) ∈ tables_1 := tm5 (List.mem_of_getElem? (i := 15) rfl)
theorem mc_117 : Cond.code (my 117) (mCd 117) (mMx 117) (mRt 117) ∈ tables_1 := tm5 (List.mem_of_getElem? (i := 19) rfl)
theorem mc_118 : Cond.code (my 118) (mCd 118) (mMx 118) (mRt 118) ∈ tables_1 := tm5 (List.mem_of_getElem? (i := 24) rfl)
theorem mc_119 : Cond.code (my 119) (mCd 119) (mMx 119) (mRt 119) ∈ tables_1 := tm5 (List.mem_of_getElem? (i := 40) rfl)
theorem mc_120 : Cond.code (my 120) (mCd 120) (mMx 120) (mRt 120) ∈ tables_1 := tm5 (List.mem_of_getElem? (i := 53) rfl)
theorem mc_121 : Cond.code (my 121) (mCd 121) (mMx 121) (mRt 121) ∈ tables_1 := tm5 (List.mem_of_getElem? (i := 57) rfl)
theorem mc_122 : Cond.code (my 122) (mCd 122) (mMx 122) (mRt 122) ∈ tables_1 := tm5 (List.mem_of_getElem? (i := 61) rfl)
theorem mc_123 : Cond.code (my 123) (mCd 123) (mMx 123) (mRt 123) ∈ tables_1 := tm5 (List.mem_of_getElem? (i := 69) rfl)
theorem mc_124 : Cond.code (my 124) (mCd 124) (mMx 124) (mRt 124) ∈ tables_1 := tm5 (List.mem_of_getElem? (i := 89) rfl)
theorem mc_125 : Cond.code (my 125) (mCd 125) (mMx 125) (mRt 125) ∈ tables_1 := tm5 (List.mem_of_getElem? (i := 99) rfl)
theorem mc_126 : Cond.code (my 126) (mCd 126) (mMx 126) (mRt 126) ∈ tables_1 := tm5 (List.mem_of_getElem? (i := 116) rfl)
theorem mc_127 : Cond.code (my 127) (mCd 127) (mMx 127) (mRt 127) ∈ tables_1 := tm5 (List.mem_of_getElem? (i := 126) rfl)
theorem mc_128 : Cond.code (my 128) (mCd 128) (mMx 128) (mRt 128) ∈ tables_1 := tm5 (List.mem_of_getElem? (i := 131) rfl)
theorem mc_129 : Cond.code (my 129) (mCd 129) (mMx 129) (mRt 129) ∈ tables_1 := tm4 (List.mem_of_getElem? (i := 22) rfl)
theorem mc_130 : Cond.code (my 130) (mCd 130) (mMx 130) (mRt 130) ∈ tables_1 := tm4 (List.mem_of_getElem? (i := 93) rfl)
theorem mc_131 : Cond.code (my 131) (mCd 131) (mMx 131) (mRt 131) ∈ tables_1 := tm4 (List.mem_of_getElem? (i := 180) rfl)
theorem mc_132 : Cond.code (my 132) (mCd 132) (mMx 132) (mRt 132) ∈ tables_1 := tm5 (List.mem_of_getElem? (i := 107) rfl)
theorem mc_133 : Cond.code (my 133) (mCd 133) (mMx 133) (mRt 133) ∈ tables_1 := tm5 (List.mem_of_getElem? (i := 122) rfl)
theorem mc_134 : Cond.code (my 134) (mCd 134) (mMx 134) (mRt 134) ∈ tables_1 := tm4 (List.mem_of_getElem? (i := 191) rfl)
theorem mc_135 : Cond.code (my 135) (mCd 135) (mMx 135) (mRt 135) ∈ tables_1 := tm5 (List.mem_of_getElem? (i := 92) rfl)
theorem mc_136 : Cond.code (my 136) (mCd 136) (mMx 136) (mRt 136) ∈ tables_1 := tm5 (List.mem_of_getElem? (i := 102) rfl)
theorem mc_137 : Cond.code (my 137) (mCd 137) (mMx 137) (mRt 137) ∈ tables_1 := tm5 (List.mem_of_getElem? (i := 95) rfl)
theorem mc_138 : Cond.code (my 138) (mCd 138) (mMx 138) (mRt 138) ∈ tables_1 := tm5 (List.mem_of_getElem? (i := 218) rfl)
theorem mc_139 : Cond.code (my 139) (mCd 139) (mMx 139) (mRt 139) ∈ tables_1 := tm5 (List.mem_of_getElem? (i := 222) rfl)
theorem mc_140 : Cond.code (my 140) (mCd 140) (mMx 140) (mRt 140) ∈ tables_1 := tm5 (List.mem_of_getElem? (i := 227) rfl)
theorem mc_141 : Cond.code (my 141) (mCd 141) (mMx 141) (mRt 141) ∈ tables_1 := tm5 (List.mem_of_getElem? (i := 231) rfl)
theorem mc_142 : Cond.code (my 142) (mCd 142) (mMx 142) (mRt 142) ∈ tables_1 := tm6 (List.mem_of_getElem? (i := 143) rfl)
theorem mc_143 : Cond.code (my 143) (mCd 143) (mMx 143) (mRt 143) ∈ tables_1 := tm6 (List.mem_of_getElem? (i := 150) rfl)
theorem mc_144 : Cond.code (my 144) (mCd 144) (mMx 144) (mRt 144) ∈ tables_1 := tm6 (List.mem_of_getElem? (i := 147) rfl)
theorem mc_145 : Cond.code (my 145) (mCd 145) (mMx 145) (mRt 145) ∈ tables_1 := tm6 (List.mem_of_getElem? (i := 155) rfl)
theorem mc_146 : Cond.code (my 146) (mCd 146) (mMx 146) (mRt 146) ∈ tables_1 := tm6 (List.mem_of_getElem? (i := 140) rfl)
theorem mc_147 : Cond.code (my 147) (mCd 147) (mMx 147) (mRt 147) ∈ tables_1 := tm6 (List.mem_of_getElem? (i := 171) rfl)
theorem mc_148 : Cond.code (my 148) (mCd 148) (mMx 148) (mRt 148) ∈ tables_1 := tm6 (List.mem_of_getElem? (i := 183) rfl)
theorem mc_149 : Cond.code (my 149) (mCd 149) (mMx 149) (mRt 149) ∈ tables_1 := tm6 (List.mem_of_getElem? (i := 167) rfl)
theorem mc_150 : Cond.code (my 150) (mCd 150) (mMx 150) (mRt 150) ∈ tables_1 := tm6 (List.mem_of_getElem? (i := 179) rfl)
theorem mc_151 : Cond.code (my 151) (mCd 151) (mMx 151) (mRt 151) ∈ tables_1 := tm7 (List.mem_of_getElem? (i := 7) rfl)
theorem mc_152 : Cond.code (my 152) (mCd 152) (mMx 152) (mRt 152) ∈ tables_1 := tm6 (List.mem_of_getElem? (i := 163) rfl)
theorem mc_153 : Cond.code (my 153) (mCd 153) (mMx 153) (mRt 153) ∈ tables_1 := tm6 (List.mem_of_getElem? (i := 159) rfl)
theorem mc_154 : Cond.code (my 154) (mCd 154) (mMx 154) (mRt 154) ∈ tables_1 := tm7 (List.mem_of_getElem? (i := 26) rfl)
theorem mc_155 : Cond.code (my 155) (mCd 155) (mMx 155) (mRt 155) ∈ tables_1 := tm6 (List.mem_of_getElem? (i := 19) rfl)
theorem mc_156 : Cond.code (my 156) (mCd 156) (mMx 156) (mRt 156) ∈ tables_1 := tm6 (List.mem_of_getElem? (i := 175) rfl)
theorem mc_157 : Cond.code (my 157) (mCd 157) (mMx 157) (mRt 157) ∈ tables_1 := tm6 (List.mem_of_getElem? (i := 219) rfl)
theorem mc_158 : Cond.code (my 158) (mCd 158) (mMx 158) (mRt 158) ∈ tables_1 := tm6 (List.mem_of_getElem? (i := 136) rfl)
theorem mc_159 : Cond.code (my 159) (mCd 159) (mMx 159) (mRt 159) ∈ tables_1 := tm7 (List.mem_of_getElem? (i := 11) rfl)
theorem mc_160 : Cond.code (my 160) (mCd 160) (mMx 160) (mRt 160) ∈ tables_1 := tm6 (List.mem_of_getElem? (i := 207) rfl)
theorem mc_161 : Cond.code (my 161) (mCd 161) (mMx 161) (mRt 161) ∈ tables_1 := tm6 (List.mem_of_getElem? (i := 187) rfl)
theorem mc_162 : Cond.code (my 162) (mCd 162) (mMx 162) (mRt 162) ∈ tables_1 := tm6 (List.mem_of_getElem? (i := 191) rfl)
theorem mc_163 : Cond.code (my 163) (mCd 163) (mMx 163) (mRt 163) ∈ tables_1 := tm6 (List.mem_of_getElem? (i := 195) rfl)
theorem mc_164 : Cond.code (my 164) (mCd 164) (mMx 164) (mRt 164) ∈ tables_1 := tm6 (List.mem_of_getElem? (i := 199) rfl)
theorem mc_165 : Cond.code (my 165) (mCd 165) (mMx 165) (mRt 165) ∈ tables_1 := tm6 (List.mem_of_getElem? (i := 203) rfl)
theorem mc_166 : Cond.code (my 166) (mCd 166) (mMx 166) (mRt 166) ∈ tables_1 := tm6 (List.mem_of_getElem? (i := 211) rfl)
theorem mc_167 : Cond.code (my 167) (mCd 167) (mMx 167) (mRt 167) ∈ tables_1 := tm6 (List.mem_of_getElem? (i := 215) rfl)
theorem mc_168 : Cond.code (my 168) (mCd 168) (mMx 168) (mRt 168) ∈ tables_1 := tm7 (List.mem_of_getElem? (i := 3) rfl)
theorem mc_169 : Cond.code (my 169) (mCd 169) (mMx 169) (mRt 169) ∈ tables_1 := tm6 (List.mem_of_getElem? (i := 223) rfl)
theorem mc_170 : Cond.code (my 170) (mCd 170) (mMx 170) (mRt 170) ∈ tables_1 := tm6 (List.mem_of_getElem? (i := 227) rfl)
theorem mc_171 : Cond.code (my 171) (mCd 171) (mMx 171) (mRt 171) ∈ tables_1 := tm6 (List.mem_of_getElem? (i := 231) rfl)
theorem mc_172 : Cond.code (my 172) (mCd 172) (mMx 172) (mRt 172) ∈ tables_1 := tm6 (List.mem_of_getElem? (i := 235) rfl)
theorem mc_173 : Cond.code (my 173) (mCd 173) (mMx 173) (mRt 173) ∈ tables_1 := tm6 (List.mem_of_getElem? (i := 239) rfl)
theorem mc_174 : Cond.code (my 174) (mCd 174) (mMx 174) (mRt 174) ∈ tables_1 := tm7 (List.mem_of_getElem? (i := 196) rfl)
theorem mc_175 : Cond.code (my 175) (mCd 175) (mMx 175) (mRt 175) ∈ tables_1 := tm7 (List.mem_of_getElem? (i := 199) rfl)
theorem mc_176 : Cond.code (my 176) (mCd 176) (mMx 176) (mRt 176) ∈ tables_1 := tm7 (List.mem_of_getElem? (i := 23) rfl)
theorem mc_177 : Cond.code (my 177) (mCd 177) (mMx 177) (mRt 177) ∈ tables_1 := tm7 (List.mem_of_getElem? (i := 15) rfl)
theorem mc_178 : Cond.code (my 178) (mCd 178) (mMx 178) (mRt 178) ∈ tables_1 := tm7 (List.mem_of_getElem? (i := 34) rfl)
theorem mc_179 : Cond.code (my 179) (mCd 179) (mMx 179) (mRt 179) ∈ tables_1 := tm7 (List.mem_of_getElem? (i := 38) rfl)
theorem mc_180 : Cond.code (my 180) (mCd 180) (mMx 180) (mRt 180) ∈ tables_1 := tm7 (List.mem_of_getElem? (i := 50) rfl)
theorem mc_181 : Cond.code (my 181) (mCd 181) (mMx 181) (mRt 181) ∈ tables_1 := tm7 (List.mem_of_getElem? (i := 54) rfl)
theorem mc_182 : Cond.code (my 182) (mCd 182) (mMx 182) (mRt 182) ∈ tables_1 := tm7 (List.mem_of_getElem? (i := 58) rfl)
theorem mc_183 : Cond.code (my 183) (mCd 183) (mMx 183) (mRt 183) ∈ tables_1 := tm7 (List.mem_of_getElem? (i := 46) rfl)
theorem mc_184 : Cond.code (my 184) (mCd 184) (mMx 184) (mRt 184) ∈ tables_1 := tm7 (List.mem_of_getElem? (i := 122) rfl)
theorem mc_185 : Cond.code (my 185) (mCd 185) (mMx 185) (mRt 185) ∈ tables_1 := tm7 (List.mem_of_getElem? (i := 66) rfl)
theorem mc_186 : Cond.code (my 186) (mCd 186) (mMx 186) (mRt 186) ∈ tables_1 := tm7 (List.mem_of_getElem? (i := 74) rfl)
theorem mc_187 : Cond.code (my 187) (mCd 187) (mMx 187) (mRt 187) ∈ tables_1 := tm7 (List.mem_of_getElem? (i := 82) rfl)
theorem mc_188 : Cond.code (my 188) (mCd 188) (mMx 188) (mRt 188) ∈ tables_1 := tm7 (List.mem_of_getElem? (i := 78) rfl)
theorem mc_189 : Cond.code (my 189) (mCd 189) (mMx 189) (mRt 189) ∈ tables_1 := tm7 (List.mem_of_getElem? (i := 70) rfl)
theorem mc_190 : Cond.code (my 190) (mCd 190) (mMx 190) (mRt 190) ∈ tables_1 := tm7 (List.mem_of_getElem? (i := 130) rfl)
theorem mc_191 : Cond.code (my 191) (mCd 191) (mMx 191) (mRt 191) ∈ tables_1 := tm7 (List.mem_of_getElem? (i := 115) rfl)
theorem mc_192 : Cond.code (my 192) (mCd 192) (mMx 192) (mRt 192) ∈ tables_1 := tm7 (List.mem_of_getElem? (i := 119) rfl)
theorem mc_193 : Cond.code (my 193) (mCd 193) (mMx 193) (mRt 193) ∈ tables_1 := tm7 (List.mem_of_getElem? (i := 138) rfl)
theorem mc_194 : Cond.code (my 194) (mCd 194) (mMx 194) (mRt 194) ∈ tables_1 := tm7 (List.mem_of_getElem? (i := 111) rfl)
theorem mc_195 : Cond.code (my 195) (mCd 195) (mMx 195) (mRt 195) ∈ tables_1 := tm7 (List.mem_of_getElem? (i := 134) rfl)
theorem mc_196 : Cond.code (my 196) (mCd 196) (mMx 196) (mRt 196) ∈ tables_1 := tm7 (List.mem_of_getElem? (i := 126) rfl)
theorem mc_197 : Cond.code (my 197) (mCd 197) (mMx 197) (mRt 197) ∈ tables_1 := tm7 (List.mem_of_getElem? (i := 142) rfl)
theorem mc_198 : Cond.code (my 198) (mCd 198) (mMx 198) (mRt 198) ∈ tables_1 := tm7 (List.mem_of_getElem? (i := 62) rfl)
theorem mc_199 : Cond.code (my 199) (mCd 199) (mMx 199) (mRt 199) ∈ tables_1 := tm7 (List.mem_of_getElem? (i := 19) rfl)
theorem mc_200 : Cond.code (my 200) (mCd 200) (mMx 200) (mRt 200) ∈ tables_1 := tm7 (List.mem_of_getElem? (i := 42) rfl)
theorem mc_201 : Cond.code (my 201) (mCd 201) (mMx 201) (mRt 201) ∈ tables_1 := tm7 (List.mem_of_getElem? (i := 86) rfl)
theorem mc_202 : Cond.code (my 202) (mCd 202) (mMx 202) (mRt 202) ∈ tables_1 := tm7 (List.mem_of_getElem? (i := 91) rfl)
theorem mc_203 : Cond.code (my 203) (mCd 203) (mMx 203) (mRt 203) ∈ tables_1 := tm7 (List.mem_of_getElem? (i := 95) rfl)
theorem mc_204 : Cond.code (my 204) (mCd 204) (mMx 204) (mRt 204) ∈ tables_1 := tm7 (List.mem_of_getElem? (i := 103) rfl)
theorem mc_205 : Cond.code (my 205) (mCd 205) (mMx 205) (mRt 205) ∈ tables_1 := tm7 (List.mem_of_getElem? (i := 99) rfl)
theorem mc_206 : Cond.code (my 206) (mCd 206) (mMx 206) (mRt 206) ∈ tables_1 := tm7 (List.mem_of_getElem? (i := 107) rfl)
theorem mc_207 : Cond.code (my 207) (mCd 207) (mMx 207) (mRt 207) ∈ tables_1 := tm7 (List.mem_of_getElem? (i := 146) rfl)
theorem mc_208 : Cond.code (my 208) (mCd 208) (mMx 208) (mRt 208) ∈ tables_1 := tm7 (List.mem_of_getElem? (i := 151) rfl)
theorem mc_209 : Cond.code (my 209) (mCd 209) (mMx 209) (mRt 209) ∈ tables_1 := tm7 (List.mem_of_getElem? (i := 159) rfl)
theorem mc_210 : Cond.code (my 210) (mCd 210) (mMx 210) (mRt 210) ∈ tables_1 := tm7 (List.mem_of_getElem? (i := 155) rfl)
theorem mc_211 : Cond.code (my 211) (mCd 211) (mMx 211) (mRt 211) ∈ tables_1 := tm7 (List.mem_of_getElem? (i := 168) rfl)
theorem mc_212 : Cond.code (my 212) (mCd 212) (mMx 212) (mRt 212) ∈ tables_1 := tm7 (List.mem_of_getElem? (i := 163) rfl)
theorem mc_213 : Cond.code (my 213) (mCd 213) (mMx 213) (mRt 213) ∈ tables_1 := tm7 (List.mem_of_getElem? (i := 172) rfl)
theorem mc_214 : Cond.code (my 214) (mCd 214) (mMx 214) (mRt 214) ∈ tables_1 := tm7 (List.mem_of_getElem? (i := 192) rfl)
theorem mc_215 : Cond.code (my 215) (mCd 215) (mMx 215) (mRt 215) ∈ tables_1 := tm7 (List.mem_of_getElem? (i := 184) rfl)
theorem mc_216 : Cond.code (my 216) (mCd 216) (mMx 216) (mRt 216) ∈ tables_1 := tm7 (List.mem_of_getElem? (i := 188) rfl)
theorem mc_217 : Cond.code (my 217) (mCd 217) (mMx 217) (mRt 217) ∈ tables_1 := tm7 (List.mem_of_getElem? (i := 203) rfl)
theorem mc_218 : Cond.code (my 218) (mCd 218) (mMx 218) (mRt 218) ∈ tables_1 := tm7 (List.mem_of_getElem? (i := 179) rfl)
theorem mc_219 : Cond.code (my 219) (mCd 219) (mMx 219) (mRt 219) ∈ tables_1 := tm7 (List.mem_of_getElem? (i := 176) rfl)
theorem mc_220 : Cond.code (my 220) (mCd 220) (mMx 220) (mRt 220) ∈ tables_1 := tm7 (List.mem_of_getElem? (i := 207) rfl)
theorem mc_221 : Cond.code (my 221) (mCd 221) (mMx 221) (mRt 221) ∈ tables_1 := tm7 (List.mem_of_getElem? (i := 211) rfl)
theorem mc_222 : Cond.code (my 222) (mCd 222) (mMx 222) (mRt 222) ∈ tables_1 := tm7 (List.mem_of_getElem? (i := 219) rfl)
theorem mc_223 : Cond.code (my 223) (mCd 223) (mMx 223) (mRt 223) ∈ tables_1 := tm7 (List.mem_of_getElem? (i := 215) rfl)
theorem mc_224 : Cond.code (my 224) (mCd 224) (mMx 224) (mRt 224) ∈ tables_1 := tm7 (List.mem_of_getElem? (i := 223) rfl)
theorem mc_225 : Cond.code (my 225) (mCd 225) (mMx 225) (mRt 225) ∈ tables_1 := tm7 (List.mem_of_getElem? (i := 30) rfl)
theorem mc_226 : Cond.code (my 226) (mCd 226) (mMx 226) (mRt 226) ∈ tables_1 := tm7 (List.mem_of_getElem? (i := 227) rfl)
theorem mc_227 : Cond.code (my 227) (mCd 227) (mMx 227) (mRt 227) ∈ tables_1 := tm7 (List.mem_of_getElem? (i := 231) rfl)
theorem mc_228 : Cond.code (my 228) (mCd 228) (mMx 228) (mRt 228) ∈ tables_1 := tm7 (List.mem_of_getElem? (i := 235) rfl)
theorem mc_229 : Cond.code (my 229) (mCd 229) (mMx 229) (mRt 229) ∈ tables_1 := tm8 (List.mem_of_getElem? (i := 7) rfl)
theorem mc_230 : Cond.code (my 230) (mCd 230) (mMx 230) (mRt 230) ∈ tables_1 := tm8 (List.mem_of_getElem? (i := 3) rfl)
theorem mc_231 : Cond.code (my 231) (mCd 231) (mMx 231) (mRt 231) ∈ tables_1 := tm8 (List.mem_of_getElem? (i := 11) rfl)
theorem mc_232 : Cond.code (my 232) (mCd 232) (mMx 232) (mRt 232) ∈ tables_1 := tm8 (List.mem_of_getElem? (i := 15) rfl)
theorem mc_233 : Cond.code (my 233) (mCd 233) (mMx 233) (mRt 233) ∈ tables_1 := tm7 (List.mem_of_getElem? (i := 239) rfl)
theorem mc_234 : Cond.code (my 234) (mCd 234) (mMx 234) (mRt 234) ∈ tables_1 := tm8 (List.mem_of_getElem? (i := 19) rfl)
theorem mc_235 : Cond.code (my 235) (mCd 235) (mMx 235) (mRt 235) ∈ tables_1 := tm8 (List.mem_of_getElem? (i := 28) rfl)
theorem mc_236 : Cond.code (my 236) (mCd 236) (mMx 236) (mRt 236) ∈ tables_1 := tm8 (List.mem_of_getElem? (i := 23) rfl)
theorem mc_237 : Cond.code (my 237) (mCd 237) (mMx 237) (mRt 237) ∈ tables_1 := tm8 (List.mem_of_getElem? (i := 37) rfl)
theorem mc_238 : Cond.code (my 238) (mCd 238) (mMx 238) (mRt 238) ∈ tables_1 := tm8 (List.mem_of_getElem? (i := 41) rfl)
theorem mc_239 : Cond.code (my 239) (mCd 239) (mMx 239) (mRt 239) ∈ tables_1 := tm8 (List.mem_of_getElem? (i := 45) rfl)
theorem mc_240 : Cond.code (my 240) (mCd 240) (mMx 240) (mRt 240) ∈ tables_1 := tm3 (List.mem_of_getElem? (i := 57) rfl)
theorem mc_241 : Cond.code (my 241) (mCd 241) (mMx 241) (mRt 241) ∈ tables_1 := tm3 (List.mem_of_getElem? (i := 60) rfl)
theorem mc_242 : Cond.code (my 242) (mCd 242) (mMx 242) (mRt 242) ∈ tables_1 := tm3 (List.mem_of_getElem? (i := 44) rfl)
theorem mc_243 : Cond.code (my 243) (mCd 243) (mMx 243) (mRt 243) ∈ tables_1 := tm3 (List.mem_of_getElem? (i := 48) rfl)
theorem mc_244 : Cond.code (my 244) (mCd 244) (mMx 244) (mRt 244) ∈ tables_1 := tm3 (List.mem_of_getElem? (i := 38) rfl)
theorem mc_245 : Cond.code (my 245) (mCd 245) (mMx 245) (mRt 245) ∈ tables_1 := tm3 (List.mem_of_getElem? (i := 130) rfl)
theorem mc_246 : Cond.code (my 246) (mCd 246) (mMx 246) (mRt 246) ∈ tables_1 := tm3 (List.mem_of_getElem? (i := 30) rfl)
theorem mc_247 : Cond.code (my 247) (mCd 247) (mMx 247) (mRt 247) ∈ tables_1 := tm3 (List.mem_of_getElem? (i := 34) rfl)
theorem mc_248 : Cond.code (my 248) (mCd 248) (mMx 248) (mRt 248) ∈ tables_1 := tm3 (List.mem_of_getElem? (i := 136) rfl)
theorem mc_249 : Cond.code (my 249) (mCd 249) (mMx 249) (mRt 249) ∈ tables_1 := tm3 (List.mem_of_getElem? (i := 133) rfl)
theorem mc_250 : Cond.code (my 250) (mCd 250) (mMx 250) (mRt 250) ∈ tables_1 := tm3 (List.mem_of_getElem? (i := 54) rfl)
theorem mc_251 : Cond.code (my 251) (mCd 251) (mMx 251) (mRt 251) ∈ tables_1 := tm3 (List.mem_of_getElem? (i := 51) rfl)
theorem mc_252 : Cond.code (my 252) (mCd 252) (mMx 252) (mRt 252) ∈ tables_1 := tm3 (List.mem_of_getElem? (i := 63) rfl)
theorem mc_253 : Cond.code (my 253) (mCd 253) (mMx 253) (mRt 253) ∈ tables_1 := tm3 (List.mem_of_getElem? (i := 139) rfl)
theorem mcAll : ∀ mi, mi < nM → Cond.code (my mi) (mCd mi) (mMx mi) (mRt mi) ∈ tables_1
  | 0, _ => mc_0
  | 1, _ => mc_1
  | 2, _ => mc_2
  | 3, _ => mc_3
  | 4, _ => mc_4
  | 5, _ => mc_5
  | 6, _ => mc_6
  | 7, _ => mc_7
  | 8, _ => mc_8
  | 9, _ => mc_9
  | 10, _ => mc_10
  | 11, _ => mc_11
  | 12, _ => mc_12
  | 13, _ => mc_13
  | 14, _ => mc_14
  | 15, _ => mc_15
  | 16, _ => mc_16
  | 17, _ => mc_17
  | 18, _ => mc_18
  | 19, _ => mc_19
  | 20, _ => mc_20
  | 21, _ => mc_21
  | 22, _ => mc_22
  | 23, _ => mc_23
  | 24, _ => mc_24
  | 25, _ => mc_25
  | 26, _ => mc_26
  | 27, _ => mc_27
  | 28, _ => mc_28
  | 29, _ => mc_29
  | 30, _ => mc_30
  | 31, _ => mc_31
  | 32, _ => mc_32
  | 33, _ => mc_33
  | 34, _ => mc_34
  | 35, _ => mc_35
  | 36, _ => mc_36
  | 37, _ => mc_37
  | 38, _ => mc_38
  | 39, _ => mc_39
  | 40, _ => mc_40
  | 41, _ => mc_41
  | 42, _ => mc_42
  | 43, _ => mc_43
  | 44, _ => mc_44
  | 45, _ => mc_45
  | 46, _ => mc_46
  | 47, _ => mc_47
  | 48, _ => mc_48
  | 49, _ => mc_49
  | 50, _ => mc_50
  | 51, _ => mc_51
  | 52, _ => mc_52
  | 53, _ => mc_53
  | 54, _ => mc_54
  | 55, _ => mc_55
  | 56, _ => mc_56
  | 57, _ => mc_57
  | 58, _ => mc_58
  | 59, _ => mc_59
  | 60, _ => mc_60
  | 61, _ => mc_61
  | 62, _ => mc_62
  | 63, _ => mc_63
  | 64, _ => mc_64
  | 65, _ => mc_65
  | 66, _ => mc_66
  | 67, _ => mc_67
  | 68, _ => mc_68
  | 69, _ => mc_69
  | 70, _ => mc_70
  | 71, _ => mc_71
  | 72, _ => mc_72
  | 73, _ => mc_73
  | 74, _ => mc_74
  | 75, _ => mc_75
  | 76, _ => mc_76
  | 77, _ => mc_77
  | 78, _ => mc_78
  | 79, _ => mc_79
  | 80, _ => mc_80
  | 81, _ => mc_81
  | 82, _ => mc_82
  | 83, _ => mc_83
  | 84, _ => mc_84
  | 85, _ => mc_85
  | 86, _ => mc_86
  | 87, _ => mc_87
  | 88, _ => mc_88
  | 89, _ => mc_89
  | 90, _ => mc_90
  | 91, _ => mc_91
  | 92, _ => mc_92
  | 93, _ => mc_93
  | 94, _ => mc_94
  | 95, _ => mc_95
  | 96, _ => mc_96
  | 97, _ => mc_97
  | 98, _ => mc_98
  | 99, _ => mc_99
  | 100, _ => mc_100
  | 101, _ => mc_101
  | 102, _ => mc_102
  | 103, _ => mc_103
  | 104, _ => mc_104
  | 105, _ => mc_105
  | 106, _ => mc_106
  | 107, _ => mc_107
  | 108, _ => mc_108
  | 109, _ => mc_109
  | 110, _ => mc_110
  | 111, _ => mc_111
  | 112, _ => mc_112
  | 113, _ => mc_113
  | 114, _ => mc_114
  | 115, _ => mc_115
  | 116, _ => mc_116
  | 117, _ => mc_117
  | 118, _ => mc_118
  | 119, _ => mc_119
  | 120, _ => mc_120
  | 121, _ => mc_121
  | 122, _ => mc_122
  | 123, _ => mc_123
  | 124, _ => mc_124
  | 125, _ => mc_125
  | 126, _ => mc_126
  | 127, _ => mc_127
  | 128, _ => mc_128
  | 129, _ => mc_129
  | 130, _ => mc_130
  | 131, _ => mc_131
  | 132, _ => mc_132
  | 133, _ => mc_133
  | 134, _ => mc_134
  | 135, _ => mc_135
  | 136, _ => mc_136
  | 137, _ => mc_137
  | 138, _ => mc_138
  | 139, _ => mc_139
  | 140, _ => mc_140
  | 141, _ => mc_141
  | 142, _ => mc_142
  | 143, _ => mc_143
  | 144, _ => mc_144
  | 145, _ => mc_145
  | 146, _ => mc_146
  | 147, _ => mc_147
  | 148, _ => mc_148
  | 149, _ => mc_149
  | 150, _ => mc_150
  | 151, _ => mc_151
  | 152, _ => mc_152
  | 153, _ => mc_153
  | 154, _ => mc_154
  | 155, _ => mc_155
  | 156, _ => mc_156
  | 157, _ => mc_157
  | 158, _ => mc_158
  | 159, _ => mc_159
  | 160, _ => mc_160
  | 161, _ => mc_161
  | 162, _ => mc_162
  | 163, _ => mc_163
  | 164, _ => mc_164
  | 165, _ => mc_165
  | 166, _ => mc_166
  | 167, _ => mc_167
  | 168, _ => mc_168
  | 169, _ => mc_169
  | 170, _ => mc_170
  | 171, _ => mc_171
  | 172, _ => mc_172
  | 173, _ => mc_173
  | 174, _ => mc_174
  | 175, _ => mc_175
  | 176, _ => mc_176
  | 177, _ => mc_177
  | 178, _ => mc_178
  | 179, _ => mc_179
  | 180, _ => mc_180
  | 181, _ => mc_181
  | 182, _ => mc_182
  | 183, _ => mc_183
  | 184, _ => mc_184
  | 185, _ => mc_185
  | 186, _ => mc_186
  | 187, _ => mc_187
  | 188, _ => mc_188
  | 189, _ => mc_189
  | 190, _ => mc_190
  | 191, _ => mc_191
  | 192, _ => mc_192
  | 193, _ => mc_193
  | 194, _ => mc_194
  | 195, _ => mc_195
  | 196, _ => mc_196
  | 197, _ => mc_197
  | 198, _ => mc_198
  | 199, _ => mc_199
  | 200, _ => mc_200
  | 201, _ => mc_201
  | 202, _ => mc_202
  | 203, _ => mc_203
  | 204, _ => mc_204
  | 205, _ => mc_205
  | 206, _ => mc_206
  | 207, _ => mc_207
  | 208, _ => mc_208
  | 209, _ => mc_209
  | 210, _ => mc_210
  | 211, _ => mc_211
  | 212, _ => mc_212
  | 213, _ => mc_213
  | 214, _ => mc_214
  | 215, _ => mc_215
  | 216, _ => mc_216
  | 217, _ => mc_217
  | 218, _ => mc_218
  | 219, _ => mc_219
  | 220, _ => mc_220
  | 221, _ => mc_221
  | 222, _ => mc_222
  | 223, _ => mc_223
  | 224, _ => mc_224
  | 225, _ => mc_225
  | 226, _ => mc_226
  | 227, _ => mc_227
  | 228, _ => mc_228
  | 229, _ => mc_229
  | 230, _ => mc_230
  | 231, _ => mc_231
  | 232, _ => mc_232
  | 233, _ => mc_233
  | 234, _ => mc_234
  | 235, _ => mc_235
  | 236, _ => mc_236
  | 237, _ => mc_237
  | 238, _ => mc_238
  | 239, _ => mc_239
  | 240, _ => mc_240
  | 241, _ => mc_241
  | 242, _ => mc_242
  | 243, _ => mc_243
  | 244, _ => mc_244
  | 245, _ => mc_245
  | 246, _ => mc_246
  | 247, _ => mc_247
  | 248, _ => mc_248
  | 249, _ => mc_249
  | 250, _ => mc_250
  | 251, _ => mc_251
  | 252, _ => mc_252
  | 253, _ => mc_253
  | n + 254, h => absurd h (by unfold nM; omega)
theorem tt_mp0 : ∀ q ∈ (mpo.drop 0).take 32, tables_1[q.2.2.2.1]? = some (if q.2.1 = 2 then .static (my q.1) else .instanceMethod (my q.1)) ∧ (q.2.1 = 0 → tables_1[q.2.2.2.2]? = some (.selects (my q.1).cls (my q.1) (my q.1))) ∧ (q.2.1 = 1 → ∃ z ∈ lw_privs, z.1 = my q.1) ∧ (q.2.1 = 3 → mNm q.1 = "<init>") := by decide +kernel
theorem tt_mp32 : ∀ q ∈ (mpo.drop 32).take 32, tables_1[q.2.2.2.1]? = some (if q.2.1 = 2 then .static (my q.1) else .instanceMethod (my q.1)) ∧ (q.2.1 = 0 → tables_1[q.2.2.2.2]? = some (.selects (my q.1).cls (my q.1) (my q.1))) ∧ (q.2.1 = 1 → ∃ z ∈ lw_privs, z.1 = my q.1) ∧ (q.2.1 = 3 → mNm q.1 = "<init>") := by decide +kernel
theorem tt_mp64 : ∀ q ∈ (mpo.drop 64).take 32, tables_1[q.2.2.2.1]? = some (if q.2.1 = 2 then .static (my q.1) else .instanceMethod (my q.1)) ∧ (q.2.1 = 0 → tables_1[q.2.2.2.2]? = some (.selects (my q.1).cls (my q.1) (my q.1))) ∧ (q.2.1 = 1 → ∃ z ∈ lw_privs, z.1 = my q.1) ∧ (q.2.1 = 3 → mNm q.1 = "<init>") := by decide +kernel
theorem tt_mp96 : ∀ q ∈ (mpo.drop 96).take 32, tables_1[q.2.2.2.1]? = some (if q.2.1 = 2 then .static (my q.1) else .instanceMethod (my q.1)) ∧ (q.2.1 = 0 → tables_1[q.2.2.2.2]? = some (.selects (my q.1).cls (my q.1) (my q.1))) ∧ (q.2.1 = 1 → ∃ z ∈ lw_privs, z.1 = my q.1) ∧ (q.2.1 = 3 → mNm q.1 = "<init>") := by decide +kernel
theorem tt_mp128 : ∀ q ∈ (mpo.drop 128).take 32, tables_1[q.2.2.2.1]? = some (if q.2.1 = 2 then .static (my q.1) else .instanceMethod (my q.1)) ∧ (q.2.1 = 0 → tables_1[q.2.2.2.2]? = some (.selects (my q.1).cls (my q.1) (my q.1))) ∧ (q.2.1 = 1 → ∃ z ∈ lw_privs, z.1 = my q.1) ∧ (q.2.1 = 3 → mNm q.1 = "<init>") := by decide +kernel
theorem tt_mp160 : ∀ q ∈ (mpo.drop 160).take 32, tables_1[q.2.2.2.1]? = some (if q.2.1 = 2 then .static (my q.1) else .instanceMethod (my q.1)) ∧ (q.2.1 = 0 → tables_1[q.2.2.2.2]? = some (.selects (my q.1).cls (my q.1) (my q.1))) ∧ (q.2.1 = 1 → ∃ z ∈ lw_privs, z.1 = my q.1) ∧ (q.2.1 = 3 → mNm q.1 = "<init>") := by decide +kernel
theorem tt_mp192 : ∀ q ∈ (mpo.drop 192).take 32, tables_1[q.2.2.2.1]? = some (if q.2.1 = 2 then .static (my q.1) else .instanceMethod (my q.1)) ∧ (q.2.1 = 0 → tables_1[q.2.2.2.2]? = some (.selects (my q.1).cls (my q.1) (my q.1))) ∧ (q.2.1 = 1 → ∃ z ∈ lw_privs, z.1 = my q.1) ∧ (q.2.1 = 3 → mNm q.1 = "<init>") := by decide +kernel
theorem tt_mp224 : ∀ q ∈ (mpo.drop 224).take 30, tables_1[q.2.2.2.1]? = some (if q.2.1 = 2 then .static (my q.1) else .instanceMethod (my q.1)) ∧ (q.2.1 = 0 → tables_1[q.2.2.2.2]? = some (.selects (my q.1).cls (my q.1) (my q.1))) ∧ (q.2.1 = 1 → ∃ z ∈ lw_privs, z.1 = my q.1) ∧ (q.2.1 = 3 → mNm q.1 = "<init>") := by decide +kernel
end
section
/-! The pure machine's heap, as the JVM's heap holds it. -/
def gtbl : List Cond := lw_tbl.filter goodWord
theorem gt_t {w : Cond} {i : Nat} (h : tables_1[i]? = some w) (hg : goodWord w = true) : w ∈ gtbl := List.mem_filter.mpr ⟨List.mem_append_right _ (List.mem_of_getElem? h), hg⟩
theorem gt_s {q : MethodName × Nat} (h : q ∈ lw_privs) : Cond.selects q.1.cls q.1 q.1 ∈ gtbl := List.mem_filter.mpr ⟨List.mem_append_left _ (List.mem_map.mpr ⟨q, h, rfl⟩), rfl⟩
theorem gt_good {w : Cond} (h : w ∈ gtbl) : (w.onTables && w.keeps) = true ∨ ∃ ty, w = .arrayClass ty := good_of_word (List.mem_filter.mp h).2
abbrev GG : Type := va_G × (Nat → ClassId) × Nat × Nat × (Nat → Nat) × (Nat → Nat) × Value
def gD (g : GG) : va_G := g.1
def gY (g : GG) : Nat → ClassId := g.2.1
def gB (g : GG) : Nat := g.2.2.1
def gX (g : GG) : Nat := g.2.2.2.1
def gK (g : GG) : Nat → Nat := g.2.2.2.2.1
def gV (g : GG) : Nat → Nat := g.2.2.2.2.2.1
def gF (g : GG) : Value := g.2.2.2.2.2.2
def gA (g : GG) : Nat → Prop := fun q => gB g ≤ q
def adr (g : GG) (k r : Nat) : Nat := if k = 40 then gK g r else if k = 41 then gV g r else if k = 42 then gX g else gB g + r
def cv (g : GG) (v : AV) : Value := match v with
  | .inl x => .int x
  | .inr (.inl x) => .long x
  | .inr (.inr (k, r)) => if k = 43 then gF g else .ref (adr g k r)
theorem adr_h {g : GG} {k r : Nat} (h : k < 40) : adr g k r = gB g + r := by
  unfold adr
  rw [if_neg (by omega), if_neg (by omega), if_neg (by omega)]
theorem cv_r {g : GG} {k r : Nat} (h : k ≠ 43) : cv g (vR k r) = .ref (adr g k r) := by
  show (if k = 43 then gF g else .ref (adr g k r)) = _
  rw [if_neg h]
def fV (g : GG) (h : Hp) (ci i k : Nat) : Value := if fK ci k = 102 then .long (hL h i k) else if 99 < fK ci k then .int (hI h i k) else va_rf ((hR h i k).map (fun x => gB g + x))
def cE (g : GG) (h : Hp) (i : Nat) : va_E :=
  if hK h i < 13 then .inr (hK h i, (List.range (cF (hK h i))).map (fV g h (hK h i) i))
  else if hK h i = 21 then .inl (gY g 21, hN h i, .inr (.inl (hL h i)))
  else if hK h i = 24 then .inl (gY g 24, hN h i, .inr (.inr (.inr (.inr (fun j => (hR h i j).map (fun x => gB g + x))))))
  else if hK h i < 30 then .inl (gY g (hK h i), hN h i, .inl (hI h i))
  else .inr (13, [])
def wsO (g : GG) (h : Hp) : va_W := (List.range (hC h)).map (fun i => (gB g + i, cE g h i))
def Hold (g : GG) (h : Hp) (H : Heap) : Prop := va_P (gD g) vcl (wsO g h) H ∧ H.size = gB g + hC h
def tys (g : GG) : List (ClassId × FieldType) := [(gY g 20, .int), (gY g 21, .long), (gY g 22, .char), (gY g 23, .boolean), (gY g 24, .object "StairWays$Mark")]
def slens : List Nat := sbyt.map List.length
def Evn (g : GG) (L : Nat) (xs : Nat → Int32) (U : State) : Prop :=
  va_K (gD g) vcl (tys g) U ∧ (∀ q ∈ mlk, q.2.2.2.1 = 1 → va_Nw (.methodLinkNest (ownOf q.1) q.2.1 (my q.2.2.1) "StairWays") U) ∧ (∀ q ∈ srf, vk_R (ownOf q.1) q.2.1 (stx.getD q.2.2.1 "") (gK g q.2.2.1) U) ∧
  vk_S 23 slens sbyt (gK g) (gV g) (gA g) U U.heap ∧ va_Z "java/lang/String" "COMPACT_STRINGS" "Z" (.int 1) (gA g) U U.heap ∧
  va_Z "jdk/internal/util/Preconditions" "SIOOBE_FORMATTER" "Ljava/util/function/BiFunction;" (gF g) (gA g) U U.heap ∧ va_AO "StairWays$Mark" U ∧ va_X (gX g) L xs U U.heap ∧ gX g < gB g ∧ gB g ≤ U.heap.size ∧ (gF g).category = 1
theorem Evn.mv {g : GG} {L : Nat} {xs : Nat → Int32} {s U : State} (h : Evn g L xs s) (hW : s.WarmedH U.vm) (hz : s.heap.size ≤ U.heap.size) (hq : ∀ a : Nat, a < s.heap.size → ¬ gA g a → U.heap[a]? = s.heap[a]?) : Evn g L xs U := by
  obtain ⟨h1, h2, h3, h4, h5, h6, h7, h8, h9, h10, h11⟩ := h
  refine ⟨va_K.moved hW.alike h1, fun q hq hn => va_Nw.warmM hW (h2 q hq hn), fun q hq => vk_R.warm hW (h3 q hq), (vk_S.moved hW.alike h4).kept hq, (va_Z.moved hW.alike h5).kept hq, (va_Z.moved hW.alike h6).kept hq, va_AO.moved hW.alike h7, (va_X.moved hW.alike h8).kept ?_, h9, by omega, h11⟩
  exact hq _ (by omega) (by unfold gA; omega)
theorem Evn.cl {g : GG} {L : Nat} {xs : Nat → Int32} {U : State} (h : Evn g L xs U) (f : JFrame) (mk : MethodId) (a : Array Value) : Evn g L xs (U.calling f mk a) :=
  h.mv (U := U.calling f mk a) (State.WarmedH.refl U) (Nat.le_refl _) (fun _ _ _ => rfl)
/-! kinds -/
def kok (h : Hp) (k r : Nat) : Prop := (k < 40 → r < hC h ∧ hK h r = k ∧ (k < 13 ∨ 19 < k ∧ k < 25)) ∧ (k = 40 ∨ k = 41 → r < 23) ∧ (k = 42 → r = 9999999) ∧ k < 44
def vok (h : Hp) (v : AV) : Prop := match v with
  | .inr (.inr (k, r)) => kok h k r
  | _ => True
def rok (h : Hp) (r : Option AV) : Prop := ∀ v, r = some v → vok h v
def gro (h h' : Hp) : Prop := hC h ≤ hC h' ∧ hS h ≤ hS h' ∧ ∀ i, i < hC h → hK h' i = hK h i
theorem gro.rf (h : Hp) : gro h h := ⟨Nat.le_refl _, Nat.le_refl _, fun _ _ => rfl⟩
theorem gro.tr {a b c : Hp} (h1 : gro a b) (h2 : gro b c) : gro a c := ⟨Nat.le_trans h1.1 h2.1, Nat.le_trans h1.2.1 h2.2.1, fun i hi => (h2.2.2 i (Nat.lt_of_lt_of_le hi h1.1)).trans (h1.2.2 i hi)⟩
theorem kok.up {h h' : Hp} {k r : Nat} (g : gro h h') (q : kok h k r) : kok h' k r := ⟨fun hk => ⟨Nat.lt_of_lt_of_le (q.1 hk).1 g.1, (g.2.2 r (q.1 hk).1).trans (q.1 hk).2.1, (q.1 hk).2.2⟩, q.2⟩
theorem vok.up {h h' : Hp} {v : AV} (g : gro h h') (q : vok h v) : vok h' v := by
  rcases v with x | x | ⟨k, r⟩
  · trivial
  · trivial
  · exact kok.up g q
def wtH (L : Nat) (xs : Nat → Int32) (h : Hp) : Prop :=
  (∀ i, i < hC h → (hK h i < 13 ∨ (19 < hK h i ∧ hK h i < 25) ∨ hK h i = 30) ∧ (hK h i < 13 → ∀ k x, k < cF (hK h i) → fK (hK h i) k < 100 → hR h i k = some x → kok h (fK (hK h i) k) x) ∧ (hK h i = 24 → ∀ k x, hR h i k = some x → kok h 1 x)) ∧
  hC h ≤ 1000000 ∧ hN h 9999999 = L ∧ ∀ j, j < L → hI h 9999999 j = xs j
theorem fk_le {ci k : Nat} (h1 : ci < 13) (h2 : k < cF ci) : fK ci k < 103 := by
  have h := tt_fk ci h1 k h2
  unfold tyOk at h
  split at h <;> simp at h <;> omega
/-! the list of cells -/
theorem wsO_len (g : GG) (h : Hp) : (wsO g h).length = hC h := by simp [wsO]
theorem wsO_at {g : GG} {h : Hp} {i : Nat} (hi : i < hC h) : (wsO g h)[i]? = some (gB g + i, cE g h i) := by
  unfold wsO
  rw [List.getElem?_map, List.getElem?_range hi]
  rfl
theorem wsO_D (g : GG) (h : Hp) : va_D (gA g) (wsO g h) := by
  refine ⟨fun i j p q hp hq e => ?_, fun k q hk => ?_⟩
  · have hi : i < hC h := by rw [← wsO_len g h]; exact (List.getElem?_eq_some_iff.mp hp).1
    have hj : j < hC h := by rw [← wsO_len g h]; exact (List.getElem?_eq_some_iff.mp hq).1
    rw [wsO_at hi] at hp
    rw [wsO_at hj] at hq
    cases hp; cases hq
    simp at e
    exact e
  · have hi : k < hC h := by rw [← wsO_len g h]; exact (List.getElem?_eq_some_iff.mp hk).1
    rw [wsO_at hi] at hk
    cases hk
    exact Nat.le_add_right _ _
theorem wsO_set {g : GG} {h h2 : Hp} {r : Nat} {E : va_E} (hc : hC h2 = hC h) (hE : cE g h2 r = E) (ho : ∀ i, i ≠ r → cE g h2 i = cE g h i) : (wsO g h).set r (gB g + r, E) = wsO g h2 := by
  apply List.ext_getElem?
  intro i
  rw [List.getElem?_set]
  by_cases hi : i < hC h
  · rw [wsO_at hi, wsO_at (by rw [hc]; exact hi), wsO_len]
    by_cases hr : r = i
    · subst hr
      rw [if_pos rfl, if_pos hi, hE]
    · rw [if_neg hr, ho i (Ne.symm hr)]
  · have e1 : (wsO g h2)[i]? = none := List.getElem?_eq_none (by rw [wsO_len, hc]; omega)
    have e2 : (wsO g h)[i]? = none := List.getElem?_eq_none (by rw [wsO_len]; omega)
    rw [e1, e2, wsO_len]
    by_cases hr : r = i
    · subst hr
      rw [if_pos rfl, if_neg hi]
    · rw [if_neg hr]
theorem wsO_push {g : GG} {h : Hp} {kd len n : Nat} {E : va_E} (hE : cE g (sN h kd len n) (hC h) = E) : wsO g h ++ [(gB g + hC h, E)] = wsO g (sN h kd len n) := by
  have hc : hC (sN h kd len n) = hC h + 1 := rfl
  apply List.ext_getElem?
  intro i
  by_cases hi : i < hC h
  · rw [List.getElem?_append_left (by rw [wsO_len]; exact hi), wsO_at hi, wsO_at (by rw [hc]; omega)]
    have e : cE g (sN h kd len n) i = cE g h i := by
      have hne : i ≠ hC h := Nat.ne_of_lt hi
      have a1 : hK (sN h kd len n) i = hK h i := if_neg hne
      have a2 : hN (sN h kd len n) i = hN h i := if_neg hne
      have a3 : hI (sN h kd len n) i = hI h i := funext fun b => if_neg hne
      have a4 : hL (sN h kd len n) i = hL h i := funext fun b => if_neg hne
      have a5 : hR (sN h kd len n) i = hR h i := funext fun b => if_neg hne
      have a6 : fV g (sN h kd len n) (hK h i) i = fV g h (hK h i) i := by
        funext k
        unfold fV
        rw [a3, a4, a5]
      unfold cE
      rw [a1, a2, a3, a4, a5, a6]
    rw [e]
  · by_cases he : i = hC h
    · subst he
      rw [List.getElem?_append_right (by rw [wsO_len]; exact Nat.le_refl _), wsO_len, wsO_at (by rw [hc]; omega), hE]
      simp
    · rw [List.getElem?_eq_none (by simp [wsO_len]; omega), List.getElem?_eq_none (by rw [wsO_len, hc]; omega)]
theorem hold_of {g : GG} {h : Hp} {H : Heap} (hP : va_P (gD g) vcl (wsO g h) H) (h0 : 0 < hC h) (hs : H.size ≤ gB g + hC h) : Hold g h H := by
  refine ⟨hP, ?_⟩
  have := (hP (hC h - 1) _ (wsO_at (by omega))).lt
  simp at this
  omega
theorem newq_of {g : GG} {h : Hp} {q : Nat} {E : va_E} {H1 : Heap} (hP : va_P (gD g) vcl (wsO g h ++ [(q, E)]) H1) (hD : va_D (gA g) (wsO g h ++ [(q, E)])) (hs : H1.size ≤ gB g + (hC h + 1)) : q = gB g + hC h := by
  have hl : (wsO g h ++ [(q, E)])[hC h]? = some (q, E) := by
    rw [List.getElem?_append_right (by rw [wsO_len]; exact Nat.le_refl _), wsO_len]
    simp
  have h1 : gB g ≤ q := hD.2 _ _ hl
  have h2 := (hP _ _ hl).lt
  simp at h2
  by_cases hq : q < gB g + hC h
  · have hi : q - gB g < hC h := by omega
    have hm : (wsO g h ++ [(q, E)])[q - gB g]? = some (gB g + (q - gB g), cE g h (q - gB g)) := by
      rw [List.getElem?_append_left (by rw [wsO_len]; exact hi), wsO_at hi]
    have := hD.1 _ _ _ _ hl hm (by simp; omega)
    omega
  · omega
/-! what lies in a cell -/
theorem cE_o {g : GG} {h : Hp} {r ci : Nat} (hk : hK h r = ci) (hc : ci < 13) : cE g h r = .inr (ci, (List.range (cF ci)).map (fV g h ci r)) := by
  unfold cE
  rw [hk, if_pos hc]
theorem cE_i {g : GG} {h : Hp} {r k : Nat} (hk : hK h r = k) (hc : k = 20 ∨ k = 22 ∨ k = 23) : cE g h r = .inl (gY g k, hN h r, .inl (hI h r)) := by
  unfold cE
  rw [hk, if_neg (by omega), if_neg (by omega), if_neg (by omega), if_pos (by omega)]
theorem cE_l {g : GG} {h : Hp} {r : Nat} (hk : hK h r = 21) : cE g h r = .inl (gY g 21, hN h r, .inr (.inl (hL h r))) := by
  unfold cE
  rw [hk, if_neg (by omega), if_pos rfl]
theorem cE_q {g : GG} {h : Hp} {r : Nat} (hk : hK h r = 24) : cE g h r = .inl (gY g 24, hN h r, .inr (.inr (.inr (.inr (fun j => (hR h r j).map (fun x => gB g + x)))))) := by
  unfold cE
  rw [hk, if_neg (by omega), if_neg (by omega), if_pos rfl]
theorem rng_set {α : Type} (N k : Nat) (f f' : Nat → α) (x : α) (hk : f' k = x) (ho : ∀ j, j ≠ k → f' j = f j) : ((List.range N).map f).set k x = (List.range N).map f' := by
  apply List.ext_getElem?
  intro i
  rw [List.getElem?_set]
  by_cases hi : i < N
  · simp only [List.getElem?_map, List.getElem?_range hi, Option.map_some, List.length_map, List.length_range]
    by_cases h : k = i
    · subst h; rw [if_pos rfl, if_pos hi, hk]
    · rw [if_neg h, ho i (Ne.symm h)]
  · have e1 : ((List.range N).map f)[i]? = none := List.getElem?_eq_none (by simp; omega)
    have e2 : ((List.range N).map f')[i]? = none := List.getElem?_eq_none (by simp; omega)
    rw [e1, e2]
    by_cases h : k = i
    · subst h; rw [if_pos rfl, if_neg (by simp; omega)]
    · rw [if_neg h]
/-- a cell's own things alone change -/
theorem cE_same {g : GG} {h h2 : Hp} {i : Nat} (a1 : hK h2 i = hK h i) (a2 : hN h2 i = hN h i) (a3 : hI h2 i = hI h i) (a4 : hL h2 i = hL h i) (a5 : hR h2 i = hR h i) : cE g h2 i = cE g h i := by
  have a6 : fV g h2 (hK h i) i = fV g h (hK h i) i := by
    funext k
    unfold fV
    rw [a3, a4, a5]
  unfold cE
  rw [a1, a2, a3, a4, a5, a6]
theorem hI_sI (h : Hp) (r k : Nat) (v : Int32) (a b : Nat) : hI (sI h r k v) a b = if a = r ∧ b = k then v else hI h a b := rfl
theorem hL_sL (h : Hp) (r k : Nat) (v : Int64) (a b : Nat) : hL (sL h r k v) a b = if a = r ∧ b = k then v else hL h a b := rfl
theorem hR_sR (h : Hp) (r k v a b : Nat) : hR (sR h r k v) a b = if a = r ∧ b = k then some v else hR h a b := rfl
theorem ne_sI {h : Hp} {r k : Nat} {v : Int32} {g : GG} (i : Nat) (hi : i ≠ r) : cE g (sI h r k v) i = cE g h i := cE_same rfl rfl (funext fun b => by rw [hI_sI, if_neg (fun q => hi q.1)]) rfl rfl
theorem ne_sL {h : Hp} {r k : Nat} {v : Int64} {g : GG} (i : Nat) (hi : i ≠ r) : cE g (sL h r k v) i = cE g h i := cE_same rfl rfl rfl (funext fun b => by rw [hL_sL, if_neg (fun q => hi q.1)]) rfl
theorem ne_sR {h : Hp} {r k v : Nat} {g : GG} (i : Nat) (hi : i ≠ r) : cE g (sR h r k v) i = cE g h i := cE_same rfl rfl rfl rfl (funext fun b => by rw [hR_sR, if_neg (fun q => hi q.1)])
/-! locals -/
def lvp (g : GG) : Nat → Lo → List (Nat × Value)
  | _, [] => []
  | i, none :: l => lvp g (i + 1) l
  | i, some v :: l => (i, cv g v) :: lvp g (i + 1) l
theorem lvp_mem {g : GG} : ∀ {lo : Lo} {i k : Nat} {w : Value}, (k, w) ∈ lvp g i lo ↔ ∃ v, i ≤ k ∧ lo[k - i]? = some (some v) ∧ w = cv g v := by
  intro lo
  induction lo with
  | nil => intro i k w; simp [lvp]
  | cons x l ih =>
    intro i k w
    have key : (∃ v, i + 1 ≤ k ∧ l[k - (i + 1)]? = some (some v) ∧ w = cv g v) ↔ ∃ v, i ≤ k ∧ k ≠ i ∧ (x :: l)[k - i]? = some (some v) ∧ w = cv g v := by
      constructor
      · rintro ⟨v, h1, h2, h3⟩
        refine ⟨v, by omega, by omega, ?_, h3⟩
        rw [show k - i = (k - (i + 1)) + 1 by omega, List.getElem?_cons_succ]
        exact h2
      · rintro ⟨v, h1, h2, h3, h4⟩
        refine ⟨v, by omega, ?_, h4⟩
        rw [show k - i = (k - (i + 1)) + 1 by omega, List.getElem?_cons_succ] at h3
        exact h3
    cases x with
    | none =>
      rw [lvp, ih, key]
      constructor
      · rintro ⟨v, h1, -, h3, h4⟩; exact ⟨v, h1, h3, h4⟩
      · rintro ⟨v, h1, h3, h4⟩
        refine ⟨v, h1, fun e => ?_, h3, h4⟩
        subst e
        simp at h3
    | some u =>
      rw [lvp, List.mem_cons, ih, key]
      constructor
      · rintro (h | ⟨v, h1, -, h3, h4⟩)
        · cases h; exact ⟨u, Nat.le_refl _, by simp, rfl⟩
        · exact ⟨v, h1, h3, h4⟩
      · rintro ⟨v, h1, h3, h4⟩
        by_cases e : k = i
        · subst e
          simp at h3
          exact Or.inl (by rw [h4, h3])
        · exact Or.inr ⟨v, h1, e, h3, h4⟩
def lh (g : GG) (lo : Lo) (n : Nat) (ls : Array Slot) : Prop := lo.length = n ∧ lv_has ls n (lvp g 0 lo)
theorem lget_at {lo : Lo} {a : Nat} {v : AV} (h : lget lo a = some v) : lo[a]? = some (some v) := by
  unfold lget at h
  rw [List.getD_eq_getElem?_getD] at h
  cases hx : lo[a]? with
  | none => rw [hx] at h; cases h
  | some x => rw [hx] at h; simp at h; rw [h]
theorem lh.at {g : GG} {lo : Lo} {n a : Nat} {ls : Array Slot} {v : AV} (h : lh g lo n ls) (ha : lget lo a = some v) : ls[a]? = some (.val (cv g v)) :=
  h.2.2.2 (a, cv g v) (lvp_mem.mpr ⟨v, Nat.zero_le _, by rw [Nat.sub_zero]; exact lget_at ha, rfl⟩)
theorem lh.mono {g : GG} {lo lo' : Lo} {n : Nat} {ls : Array Slot} (h : lh g lo n ls) (hl : lo'.length = lo.length) (hs : ∀ k v, lo'[k]? = some (some v) → lo[k]? = some (some v)) : lh g lo' n ls := by
  refine ⟨hl.trans h.1, h.2.1, h.2.2.1, fun q hq => ?_⟩
  obtain ⟨v, h1, h2, h3⟩ := lvp_mem.mp (show (q.1, q.2) ∈ lvp g 0 lo' from hq)
  exact h.2.2.2 q (lvp_mem.mpr ⟨v, h1, by rw [Nat.sub_zero] at h2 ⊢; exact hs _ _ h2, h3⟩)
theorem lkill_len : ∀ (ks : List Nat) (lo : Lo), (lkill lo ks).length = lo.length
  | [], _ => rfl
  | k :: ks, lo => by rw [lkill, lkill_len ks, List.length_set]
theorem lkill_sub : ∀ (ks : List Nat) (lo : Lo) (k : Nat) (v : AV), (lkill lo ks)[k]? = some (some v) → lo[k]? = some (some v)
  | [], _, _, _, h => h
  | j :: ks, lo, k, v, h => by
    have h1 := lkill_sub ks _ k v h
    rw [List.getElem?_set] at h1
    by_cases e : j = k
    · subst e
      simp at h1
    · rw [if_neg e] at h1; exact h1
theorem lclr_len (lo : Lo) (a : Nat) : (lclr lo a).length = lo.length := by
  unfold lclr
  split
  · rfl
  · split <;> simp
theorem lclr_sub {lo : Lo} {a k : Nat} {v : AV} (h : (lclr lo a)[k]? = some (some v)) : lo[k]? = some (some v) ∧ (k + 1 = a → ∀ x, v ≠ vL x) := by
  unfold lclr at h
  split at h
  · exact ⟨h, fun e => by omega⟩
  · rename_i b
    split at h
    · rename_i x hx
      rw [List.getElem?_set] at h
      by_cases e : b = k
      · subst e; simp at h
      · rw [if_neg e] at h
        exact ⟨h, fun e2 => by omega⟩
    · rename_i hx
      refine ⟨h, fun e2 x hv => ?_⟩
      have : b = k := by omega
      subst this
      subst hv
      exact hx x (by unfold lget; rw [List.getD_eq_getElem?_getD, h]; rfl)
theorem cat1 {g : GG} (hF : (gF g).category = 1) {v : AV} (h : ∀ x, v ≠ vL x) : (cv g v).category = 1 := by
  rcases v with x | x | ⟨k, r⟩
  · rfl
  · exact absurd rfl (h x)
  · show (if k = 43 then gF g else .ref (adr g k r)).category = 1
    split
    · exact hF
    · rfl
theorem lh.set1 {g : GG} (hF : (gF g).category = 1) {lo : Lo} {n a : Nat} {ls ls' : Array Slot} {v : AV} (h : lh g lo n ls) (h' : lv_has ls' n ((a, cv g v) :: (lvp g 0 lo).filter (fun q => !(q.1 == a) && !(q.1 + 1 == a && q.2.category == 2)))) : lh g (lset1 lo a v) n ls' := by
  refine ⟨by unfold lset1; rw [List.length_set, lclr_len]; exact h.1, h'.1, h'.2.1, fun q hq => ?_⟩
  obtain ⟨w, -, h2, h3⟩ := lvp_mem.mp (show (q.1, q.2) ∈ lvp g 0 (lset1 lo a v) from hq)
  rw [Nat.sub_zero] at h2
  unfold lset1 at h2
  rw [List.getElem?_set] at h2
  refine h'.2.2 q ?_
  by_cases e : a = q.1
  · rw [if_pos e] at h2
    split at h2
    · have : v = w := by simpa using h2
      refine List.mem_cons.mpr (Or.inl ?_)
      rw [this, ← h3, e]
    · cases h2
  · rw [if_neg e] at h2
    obtain ⟨h4, h5⟩ := lclr_sub h2
    refine List.mem_cons.mpr (Or.inr (List.mem_filter.mpr ⟨lvp_mem.mpr ⟨w, Nat.zero_le _, by rw [Nat.sub_zero]; exact h4, h3⟩, ?_⟩))
    by_cases e2 : q.1 + 1 = a
    · have := cat1 hF (h5 e2)
      simp [Ne.symm e, h3, this]
    · simp [Ne.symm e, e2]
theorem lh.set2 {g : GG} (hF : (gF g).category = 1) {lo : Lo} {n a : Nat} {ls ls' : Array Slot} {v : AV} (h : lh g lo n ls) (h' : lv_has ls' n ((a, cv g v) :: (lvp g 0 lo).filter (fun q => !(q.1 == a) && (!(q.1 == a + 1) && !(q.1 + 1 == a && q.2.category == 2))))) : lh g (lset2 lo a v) n ls' := by
  refine ⟨by unfold lset2; rw [List.length_set, List.length_set, lclr_len]; exact h.1, h'.1, h'.2.1, fun q hq => ?_⟩
  obtain ⟨w, -, h2, h3⟩ := lvp_mem.mp (show (q.1, q.2) ∈ lvp g 0 (lset2 lo a v) from hq)
  rw [Nat.sub_zero] at h2
  unfold lset2 at h2
  rw [List.getElem?_set] at h2
  refine h'.2.2 q ?_
  by_cases e : a = q.1
  · rw [if_pos e] at h2
    split at h2
    · have : v = w := by simpa using h2
      refine List.mem_cons.mpr (Or.inl ?_)
      rw [this, ← h3, e]
    · cases h2
  · rw [if_neg e, List.getElem?_set] at h2
    by_cases e1 : a + 1 = q.1
    · rw [if_pos e1] at h2
      split at h2 <;> cases h2
    · rw [if_neg e1] at h2
      obtain ⟨h4, h5⟩ := lclr_sub h2
      refine List.mem_cons.mpr (Or.inr (List.mem_filter.mpr ⟨lvp_mem.mpr ⟨w, Nat.zero_le _, by rw [Nat.sub_zero]; exact h4, h3⟩, ?_⟩))
      by_cases e2 : q.1 + 1 = a
      · have := cat1 hF (h5 e2)
        simp [Ne.symm e, Ne.symm e1, h3, this]
      · simp [Ne.symm e, Ne.symm e1, e2]
end
