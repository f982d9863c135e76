section
-- ===== PART A: goes FIRST, ahead of the names: the tables' words, and 'selects' of the private methods out of them =====
/-- a private method of a class that the tables say can be made, by its rows of tables_1 -/
def lw_okq (q : MethodName × Nat) : Prop := (q.1.cls ≠ "java/lang/invoke/MethodHandle" ∧ q.1.cls ≠ "java/lang/invoke/VarHandle") ∧ Cond.instantiable q.1.cls q.2 ∈ tables_1 ∧ Cond.privateMethod q.1 ∈ tables_1 ∧ Cond.instanceMethod q.1 ∈ tables_1
theorem lw_p0 : lw_okq (⟨"StairWays$Stair", "findFarthest", "()V"⟩, 17) := ⟨⟨by decide +kernel, by decide +kernel⟩, List.mem_of_getElem? (i := 274) (by decide +kernel), List.mem_of_getElem? (i := 410) (by decide +kernel), List.mem_of_getElem? (i := 411) (by decide +kernel)⟩
theorem lw_p1 : lw_okq (⟨"StairWays$Stair", "findHeaps", "()V"⟩, 17) := ⟨⟨by decide +kernel, by decide +kernel⟩, List.mem_of_getElem? (i := 274) (by decide +kernel), List.mem_of_getElem? (i := 414) (by decide +kernel), List.mem_of_getElem? (i := 415) (by decide +kernel)⟩
theorem lw_p2 : lw_okq (⟨"StairWays$Stair", "leastHeap", "(I)I"⟩, 17) := ⟨⟨by decide +kernel, by decide +kernel⟩, List.mem_of_getElem? (i := 274) (by decide +kernel), List.mem_of_getElem? (i := 418) (by decide +kernel), List.mem_of_getElem? (i := 419) (by decide +kernel)⟩
theorem lw_p3 : lw_okq (⟨"StairWays$Tape", "readWord", "()V"⟩, 6) := ⟨⟨by decide +kernel, by decide +kernel⟩, List.mem_of_getElem? (i := 40) (by decide +kernel), List.mem_of_getElem? (i := 496) (by decide +kernel), List.mem_of_getElem? (i := 497) (by decide +kernel)⟩
theorem lw_p4 : lw_okq (⟨"StairWays$Tape", "readNumber", "()V"⟩, 6) := ⟨⟨by decide +kernel, by decide +kernel⟩, List.mem_of_getElem? (i := 40) (by decide +kernel), List.mem_of_getElem? (i := 503) (by decide +kernel), List.mem_of_getElem? (i := 504) (by decide +kernel)⟩
theorem lw_p5 : lw_okq (⟨"StairWays$StairReader", "readFirst", "(LStairWays$Stair;)Z"⟩, 4) := ⟨⟨by decide +kernel, by decide +kernel⟩, List.mem_of_getElem? (i := 34) (by decide +kernel), List.mem_of_getElem? (i := 594) (by decide +kernel), List.mem_of_getElem? (i := 595) (by decide +kernel)⟩
theorem lw_p6 : lw_okq (⟨"StairWays$StairReader", "takeWord", "(Ljava/lang/String;)Z"⟩, 4) := ⟨⟨by decide +kernel, by decide +kernel⟩, List.mem_of_getElem? (i := 34) (by decide +kernel), List.mem_of_getElem? (i := 599) (by decide +kernel), List.mem_of_getElem? (i := 600) (by decide +kernel)⟩
theorem lw_p7 : lw_okq (⟨"StairWays$StairReader", "fail", "(I)Z"⟩, 4) := ⟨⟨by decide +kernel, by decide +kernel⟩, List.mem_of_getElem? (i := 34) (by decide +kernel), List.mem_of_getElem? (i := 628) (by decide +kernel), List.mem_of_getElem? (i := 629) (by decide +kernel)⟩
theorem lw_p8 : lw_okq (⟨"StairWays$StairReader", "takeNumber", "(II)Z"⟩, 4) := ⟨⟨by decide +kernel, by decide +kernel⟩, List.mem_of_getElem? (i := 34) (by decide +kernel), List.mem_of_getElem? (i := 633) (by decide +kernel), List.mem_of_getElem? (i := 634) (by decide +kernel)⟩
theorem lw_p9 : lw_okq (⟨"StairWays$StairReader", "isNumber", "(II)Z"⟩, 4) := ⟨⟨by decide +kernel, by decide +kernel⟩, List.mem_of_getElem? (i := 34) (by decide +kernel), List.mem_of_getElem? (i := 637) (by decide +kernel), List.mem_of_getElem? (i := 638) (by decide +kernel)⟩
theorem lw_p10 : lw_okq (⟨"StairWays$StairReader", "takeSign", "(C)Z"⟩, 4) := ⟨⟨by decide +kernel, by decide +kernel⟩, List.mem_of_getElem? (i := 34) (by decide +kernel), List.mem_of_getElem? (i := 641) (by decide +kernel), List.mem_of_getElem? (i := 642) (by decide +kernel)⟩
theorem lw_p11 : lw_okq (⟨"StairWays$StairReader", "readLine", "(LStairWays$Stair;)Z"⟩, 4) := ⟨⟨by decide +kernel, by decide +kernel⟩, List.mem_of_getElem? (i := 34) (by decide +kernel), List.mem_of_getElem? (i := 645) (by decide +kernel), List.mem_of_getElem? (i := 646) (by decide +kernel)⟩
theorem lw_p12 : lw_okq (⟨"StairWays$StairReader", "isFirst", "(I)Z"⟩, 4) := ⟨⟨by decide +kernel, by decide +kernel⟩, List.mem_of_getElem? (i := 34) (by decide +kernel), List.mem_of_getElem? (i := 650) (by decide +kernel), List.mem_of_getElem? (i := 651) (by decide +kernel)⟩
theorem lw_p13 : lw_okq (⟨"StairWays$StairReader", "readStrides", "(LStairWays$Stair;)Z"⟩, 4) := ⟨⟨by decide +kernel, by decide +kernel⟩, List.mem_of_getElem? (i := 34) (by decide +kernel), List.mem_of_getElem? (i := 654) (by decide +kernel), List.mem_of_getElem? (i := 655) (by decide +kernel)⟩
theorem lw_p14 : lw_okq (⟨"StairWays$StairReader", "readStep", "(LStairWays$Stair;I)Z"⟩, 4) := ⟨⟨by decide +kernel, by decide +kernel⟩, List.mem_of_getElem? (i := 34) (by decide +kernel), List.mem_of_getElem? (i := 664) (by decide +kernel), List.mem_of_getElem? (i := 665) (by decide +kernel)⟩
theorem lw_p15 : lw_okq (⟨"StairWays$StairReader", "readCreaks", "(LStairWays$Stair;)Z"⟩, 4) := ⟨⟨by decide +kernel, by decide +kernel⟩, List.mem_of_getElem? (i := 34) (by decide +kernel), List.mem_of_getElem? (i := 671) (by decide +kernel), List.mem_of_getElem? (i := 672) (by decide +kernel)⟩
def lw_privs_1 : List (MethodName × Nat) := [(⟨"StairWays$Stair", "findFarthest", "()V"⟩, 17), (⟨"StairWays$Stair", "findHeaps", "()V"⟩, 17), (⟨"StairWays$Stair", "leastHeap", "(I)I"⟩, 17), (⟨"StairWays$Tape", "readWord", "()V"⟩, 6), (⟨"StairWays$Tape", "readNumber", "()V"⟩, 6), (⟨"StairWays$StairReader", "readFirst", "(LStairWays$Stair;)Z"⟩, 4), (⟨"StairWays$StairReader", "takeWord", "(Ljava/lang/String;)Z"⟩, 4), (⟨"StairWays$StairReader", "fail", "(I)Z"⟩, 4), (⟨"StairWays$StairReader", "takeNumber", "(II)Z"⟩, 4), (⟨"StairWays$StairReader", "isNumber", "(II)Z"⟩, 4), (⟨"StairWays$StairReader", "takeSign", "(C)Z"⟩, 4), (⟨"StairWays$StairReader", "readLine", "(LStairWays$Stair;)Z"⟩, 4), (⟨"StairWays$StairReader", "isFirst", "(I)Z"⟩, 4), (⟨"StairWays$StairReader", "readStrides", "(LStairWays$Stair;)Z"⟩, 4), (⟨"StairWays$StairReader", "readStep", "(LStairWays$Stair;I)Z"⟩, 4), (⟨"StairWays$StairReader", "readCreaks", "(LStairWays$Stair;)Z"⟩, 4)]
theorem lw_r1 : ∀ q ∈ lw_privs_1, lw_okq q := List.forall_mem_cons.mpr ⟨lw_p0, List.forall_mem_cons.mpr ⟨lw_p1, List.forall_mem_cons.mpr ⟨lw_p2, List.forall_mem_cons.mpr ⟨lw_p3, List.forall_mem_cons.mpr ⟨lw_p4, List.forall_mem_cons.mpr ⟨lw_p5, List.forall_mem_cons.mpr ⟨lw_p6, List.forall_mem_cons.mpr ⟨lw_p7, List.forall_mem_cons.mpr ⟨lw_p8, List.forall_mem_cons.mpr ⟨lw_p9, List.forall_mem_cons.mpr ⟨lw_p10, List.forall_mem_cons.mpr ⟨lw_p11, List.forall_mem_cons.mpr ⟨lw_p12, List.forall_mem_cons.mpr ⟨lw_p13, List.forall_mem_cons.mpr ⟨lw_p14, List.forall_mem_cons.mpr ⟨lw_p15, fun _ h => absurd h List.not_mem_nil⟩⟩⟩⟩⟩⟩⟩⟩⟩⟩⟩⟩⟩⟩⟩⟩
theorem lw_p16 : lw_okq (⟨"StairWays$StairReader", "readBar", "(LStairWays$Stair;)Z"⟩, 4) := ⟨⟨by decide +kernel, by decide +kernel⟩, List.mem_of_getElem? (i := 34) (by decide +kernel), List.mem_of_getElem? (i := 676) (by decide +kernel), List.mem_of_getElem? (i := 677) (by decide +kernel)⟩
theorem lw_p17 : lw_okq (⟨"StairWays$StairReader", "readFoot", "(LStairWays$Stair;)Z"⟩, 4) := ⟨⟨by decide +kernel, by decide +kernel⟩, List.mem_of_getElem? (i := 34) (by decide +kernel), List.mem_of_getElem? (i := 685) (by decide +kernel), List.mem_of_getElem? (i := 686) (by decide +kernel)⟩
theorem lw_p18 : lw_okq (⟨"StairWays$StairReader", "readCount", "(LStairWays$Stair;)Z"⟩, 4) := ⟨⟨by decide +kernel, by decide +kernel⟩, List.mem_of_getElem? (i := 34) (by decide +kernel), List.mem_of_getElem? (i := 692) (by decide +kernel), List.mem_of_getElem? (i := 693) (by decide +kernel)⟩
theorem lw_p19 : lw_okq (⟨"StairWays$StairReader", "readGreat", "(LStairWays$Stair;)Z"⟩, 4) := ⟨⟨by decide +kernel, by decide +kernel⟩, List.mem_of_getElem? (i := 34) (by decide +kernel), List.mem_of_getElem? (i := 698) (by decide +kernel), List.mem_of_getElem? (i := 699) (by decide +kernel)⟩
theorem lw_p20 : lw_okq (⟨"StairWays$StairReader", "readEither", "(LStairWays$Mood;I)Z"⟩, 4) := ⟨⟨by decide +kernel, by decide +kernel⟩, List.mem_of_getElem? (i := 34) (by decide +kernel), List.mem_of_getElem? (i := 704) (by decide +kernel), List.mem_of_getElem? (i := 705) (by decide +kernel)⟩
theorem lw_p21 : lw_okq (⟨"StairWays$StairReader", "readTest", "(LStairWays$Mood;I)Z"⟩, 4) := ⟨⟨by decide +kernel, by decide +kernel⟩, List.mem_of_getElem? (i := 34) (by decide +kernel), List.mem_of_getElem? (i := 708) (by decide +kernel), List.mem_of_getElem? (i := 709) (by decide +kernel)⟩
theorem lw_p22 : lw_okq (⟨"StairWays$StairReader", "readSum", "(LStairWays$Mood;I)Z"⟩, 4) := ⟨⟨by decide +kernel, by decide +kernel⟩, List.mem_of_getElem? (i := 34) (by decide +kernel), List.mem_of_getElem? (i := 712) (by decide +kernel), List.mem_of_getElem? (i := 713) (by decide +kernel)⟩
theorem lw_p23 : lw_okq (⟨"StairWays$StairReader", "readProduct", "(LStairWays$Mood;I)Z"⟩, 4) := ⟨⟨by decide +kernel, by decide +kernel⟩, List.mem_of_getElem? (i := 34) (by decide +kernel), List.mem_of_getElem? (i := 716) (by decide +kernel), List.mem_of_getElem? (i := 717) (by decide +kernel)⟩
theorem lw_p24 : lw_okq (⟨"StairWays$StairReader", "readPart", "(LStairWays$Mood;I)Z"⟩, 4) := ⟨⟨by decide +kernel, by decide +kernel⟩, List.mem_of_getElem? (i := 34) (by decide +kernel), List.mem_of_getElem? (i := 720) (by decide +kernel), List.mem_of_getElem? (i := 721) (by decide +kernel)⟩
theorem lw_p25 : lw_okq (⟨"StairWays$StairReader", "namedFact", "()I"⟩, 4) := ⟨⟨by decide +kernel, by decide +kernel⟩, List.mem_of_getElem? (i := 34) (by decide +kernel), List.mem_of_getElem? (i := 725) (by decide +kernel), List.mem_of_getElem? (i := 726) (by decide +kernel)⟩
theorem lw_p26 : lw_okq (⟨"StairWays", "beginAnew", "()V"⟩, 14) := ⟨⟨by decide +kernel, by decide +kernel⟩, List.mem_of_getElem? (i := 26) (by decide +kernel), List.mem_of_getElem? (i := 740) (by decide +kernel), List.mem_of_getElem? (i := 741) (by decide +kernel)⟩
theorem lw_p27 : lw_okq (⟨"StairWays", "manyFrom", "(LStairWays$Climber;)J"⟩, 14) := ⟨⟨by decide +kernel, by decide +kernel⟩, List.mem_of_getElem? (i := 26) (by decide +kernel), List.mem_of_getElem? (i := 811) (by decide +kernel), List.mem_of_getElem? (i := 812) (by decide +kernel)⟩
theorem lw_p28 : lw_okq (⟨"StairWays$Ways", "begin", "(LStairWays$Stair;III)V"⟩, 11) := ⟨⟨by decide +kernel, by decide +kernel⟩, List.mem_of_getElem? (i := 126) (by decide +kernel), List.mem_of_getElem? (i := 819) (by decide +kernel), List.mem_of_getElem? (i := 820) (by decide +kernel)⟩
theorem lw_p29 : lw_okq (⟨"StairWays$Ways", "findLastKinds", "(LStairWays$Stair;)V"⟩, 11) := ⟨⟨by decide +kernel, by decide +kernel⟩, List.mem_of_getElem? (i := 126) (by decide +kernel), List.mem_of_getElem? (i := 831) (by decide +kernel), List.mem_of_getElem? (i := 832) (by decide +kernel)⟩
theorem lw_p30 : lw_okq (⟨"StairWays$Ways", "from", "(LStairWays$Stair;LStairWays$Climber;I)J"⟩, 11) := ⟨⟨by decide +kernel, by decide +kernel⟩, List.mem_of_getElem? (i := 126) (by decide +kernel), List.mem_of_getElem? (i := 847) (by decide +kernel), List.mem_of_getElem? (i := 848) (by decide +kernel)⟩
theorem lw_p31 : lw_okq (⟨"StairWays$Ways", "isEnd", "(LStairWays$Stair;LStairWays$Climber;)Z"⟩, 11) := ⟨⟨by decide +kernel, by decide +kernel⟩, List.mem_of_getElem? (i := 126) (by decide +kernel), List.mem_of_getElem? (i := 851) (by decide +kernel), List.mem_of_getElem? (i := 852) (by decide +kernel)⟩
def lw_privs_2 : List (MethodName × Nat) := [(⟨"StairWays$StairReader", "readBar", "(LStairWays$Stair;)Z"⟩, 4), (⟨"StairWays$StairReader", "readFoot", "(LStairWays$Stair;)Z"⟩, 4), (⟨"StairWays$StairReader", "readCount", "(LStairWays$Stair;)Z"⟩, 4), (⟨"StairWays$StairReader", "readGreat", "(LStairWays$Stair;)Z"⟩, 4), (⟨"StairWays$StairReader", "readEither", "(LStairWays$Mood;I)Z"⟩, 4), (⟨"StairWays$StairReader", "readTest", "(LStairWays$Mood;I)Z"⟩, 4), (⟨"StairWays$StairReader", "readSum", "(LStairWays$Mood;I)Z"⟩, 4), (⟨"StairWays$StairReader", "readProduct", "(LStairWays$Mood;I)Z"⟩, 4), (⟨"StairWays$StairReader", "readPart", "(LStairWays$Mood;I)Z"⟩, 4), (⟨"StairWays$StairReader", "namedFact", "()I"⟩, 4), (⟨"StairWays", "beginAnew", "()V"⟩, 14), (⟨"StairWays", "manyFrom", "(LStairWays$Climber;)J"⟩, 14), (⟨"StairWays$Ways", "begin", "(LStairWays$Stair;III)V"⟩, 11), (⟨"StairWays$Ways", "findLastKinds", "(LStairWays$Stair;)V"⟩, 11), (⟨"StairWays$Ways", "from", "(LStairWays$Stair;LStairWays$Climber;I)J"⟩, 11), (⟨"StairWays$Ways", "isEnd", "(LStairWays$Stair;LStairWays$Climber;)Z"⟩, 11)]
theorem lw_r2 : ∀ q ∈ lw_privs_2, lw_okq q := List.forall_mem_cons.mpr ⟨lw_p16, List.forall_mem_cons.mpr ⟨lw_p17, List.forall_mem_cons.mpr ⟨lw_p18, List.forall_mem_cons.mpr ⟨lw_p19, List.forall_mem_cons.mpr ⟨lw_p20, List.forall_mem_cons.mpr ⟨lw_p21, List.forall_mem_cons.mpr ⟨lw_p22, List.forall_mem_cons.mpr ⟨lw_p23, List.forall_mem_cons.mpr ⟨lw_p24, List.forall_mem_cons.mpr ⟨lw_p25, List.forall_mem_cons.mpr ⟨lw_p26, List.forall_mem_cons.mpr ⟨lw_p27, List.forall_mem_cons.mpr ⟨lw_p28, List.forall_mem_cons.mpr ⟨lw_p29, List.forall_mem_cons.mpr ⟨lw_p30, List.forall_mem_cons.mpr ⟨lw_p31, fun _ h => absurd h List.not_mem_nil⟩⟩⟩⟩⟩⟩⟩⟩⟩⟩⟩⟩⟩⟩⟩⟩
theorem lw_p32 : lw_okq (⟨"StairWays$Ways", "placeOf", "(LStairWays$Climber;)I"⟩, 11) := ⟨⟨by decide +kernel, by decide +kernel⟩, List.mem_of_getElem? (i := 126) (by decide +kernel), List.mem_of_getElem? (i := 856) (by decide +kernel), List.mem_of_getElem? (i := 857) (by decide +kernel)⟩
theorem lw_p33 : lw_okq (⟨"StairWays$Ways", "behind", "(LStairWays$Stair;LStairWays$Climber;II)J"⟩, 11) := ⟨⟨by decide +kernel, by decide +kernel⟩, List.mem_of_getElem? (i := 126) (by decide +kernel), List.mem_of_getElem? (i := 860) (by decide +kernel), List.mem_of_getElem? (i := 861) (by decide +kernel)⟩
theorem lw_p34 : lw_okq (⟨"StairWays$Ways", "isOpen", "(LStairWays$Stair;LStairWays$Climber;I)Z"⟩, 11) := ⟨⟨by decide +kernel, by decide +kernel⟩, List.mem_of_getElem? (i := 126) (by decide +kernel), List.mem_of_getElem? (i := 864) (by decide +kernel), List.mem_of_getElem? (i := 865) (by decide +kernel)⟩
theorem lw_p35 : lw_okq (⟨"StairWays$Ways", "agreesWithDust", "(II)Z"⟩, 11) := ⟨⟨by decide +kernel, by decide +kernel⟩, List.mem_of_getElem? (i := 126) (by decide +kernel), List.mem_of_getElem? (i := 869) (by decide +kernel), List.mem_of_getElem? (i := 870) (by decide +kernel)⟩
theorem lw_p36 : lw_okq (⟨"StairWays", "strideOf", "(JI)I"⟩, 14) := ⟨⟨by decide +kernel, by decide +kernel⟩, List.mem_of_getElem? (i := 26) (by decide +kernel), List.mem_of_getElem? (i := 898) (by decide +kernel), List.mem_of_getElem? (i := 899) (by decide +kernel)⟩
theorem lw_p37 : lw_okq (⟨"StairWays$Throng", "begin", "(LStairWays$Stair;)V"⟩, 11) := ⟨⟨by decide +kernel, by decide +kernel⟩, List.mem_of_getElem? (i := 167) (by decide +kernel), List.mem_of_getElem? (i := 918) (by decide +kernel), List.mem_of_getElem? (i := 919) (by decide +kernel)⟩
theorem lw_p38 : lw_okq (⟨"StairWays$Throng", "passStep", "(LStairWays$Stair;II)V"⟩, 11) := ⟨⟨by decide +kernel, by decide +kernel⟩, List.mem_of_getElem? (i := 167) (by decide +kernel), List.mem_of_getElem? (i := 930) (by decide +kernel), List.mem_of_getElem? (i := 931) (by decide +kernel)⟩
theorem lw_p39 : lw_okq (⟨"StairWays$Throng", "placeOf", "(LStairWays$Stair;LStairWays$Climber;)I"⟩, 11) := ⟨⟨by decide +kernel, by decide +kernel⟩, List.mem_of_getElem? (i := 167) (by decide +kernel), List.mem_of_getElem? (i := 935) (by decide +kernel), List.mem_of_getElem? (i := 936) (by decide +kernel)⟩
theorem lw_p40 : lw_okq (⟨"StairWays$Throng", "part", "(LStairWays$Stair;J)V"⟩, 11) := ⟨⟨by decide +kernel, by decide +kernel⟩, List.mem_of_getElem? (i := 167) (by decide +kernel), List.mem_of_getElem? (i := 959) (by decide +kernel), List.mem_of_getElem? (i := 960) (by decide +kernel)⟩
theorem lw_p41 : lw_okq (⟨"StairWays$Throng", "send", "(LStairWays$Stair;IJ)V"⟩, 11) := ⟨⟨by decide +kernel, by decide +kernel⟩, List.mem_of_getElem? (i := 167) (by decide +kernel), List.mem_of_getElem? (i := 968) (by decide +kernel), List.mem_of_getElem? (i := 969) (by decide +kernel)⟩
theorem lw_p42 : lw_okq (⟨"StairWays$Pair", "beat", "(LStairWays$Stair;II)V"⟩, 1) := ⟨⟨by decide +kernel, by decide +kernel⟩, List.mem_of_getElem? (i := 227) (by decide +kernel), List.mem_of_getElem? (i := 991) (by decide +kernel), List.mem_of_getElem? (i := 992) (by decide +kernel)⟩
theorem lw_p43 : lw_okq (⟨"StairWays$Ways", "winning", "(LStairWays$Stair;LStairWays$Climber;I)I"⟩, 11) := ⟨⟨by decide +kernel, by decide +kernel⟩, List.mem_of_getElem? (i := 126) (by decide +kernel), List.mem_of_getElem? (i := 1006) (by decide +kernel), List.mem_of_getElem? (i := 1007) (by decide +kernel)⟩
theorem lw_p44 : lw_okq (⟨"StairWays$Sweep", "findReached", "(LStairWays$Stair;[I)V"⟩, 3) := ⟨⟨by decide +kernel, by decide +kernel⟩, List.mem_of_getElem? (i := 211) (by decide +kernel), List.mem_of_getElem? (i := 1035) (by decide +kernel), List.mem_of_getElem? (i := 1036) (by decide +kernel)⟩
theorem lw_p45 : lw_okq (⟨"StairWays$Sweep", "leads", "(II)Z"⟩, 3) := ⟨⟨by decide +kernel, by decide +kernel⟩, List.mem_of_getElem? (i := 211) (by decide +kernel), List.mem_of_getElem? (i := 1039) (by decide +kernel), List.mem_of_getElem? (i := 1040) (by decide +kernel)⟩
theorem lw_p46 : lw_okq (⟨"StairWays$Sweep", "joins", "(LStairWays$Stair;[III)Z"⟩, 3) := ⟨⟨by decide +kernel, by decide +kernel⟩, List.mem_of_getElem? (i := 211) (by decide +kernel), List.mem_of_getElem? (i := 1043) (by decide +kernel), List.mem_of_getElem? (i := 1044) (by decide +kernel)⟩
theorem lw_p47 : lw_okq (⟨"StairWays", "drawBelow", "(I)I"⟩, 14) := ⟨⟨by decide +kernel, by decide +kernel⟩, List.mem_of_getElem? (i := 26) (by decide +kernel), List.mem_of_getElem? (i := 1065) (by decide +kernel), List.mem_of_getElem? (i := 1066) (by decide +kernel)⟩
def lw_privs_3 : List (MethodName × Nat) := [(⟨"StairWays$Ways", "placeOf", "(LStairWays$Climber;)I"⟩, 11), (⟨"StairWays$Ways", "behind", "(LStairWays$Stair;LStairWays$Climber;II)J"⟩, 11), (⟨"StairWays$Ways", "isOpen", "(LStairWays$Stair;LStairWays$Climber;I)Z"⟩, 11), (⟨"StairWays$Ways", "agreesWithDust", "(II)Z"⟩, 11), (⟨"StairWays", "strideOf", "(JI)I"⟩, 14), (⟨"StairWays$Throng", "begin", "(LStairWays$Stair;)V"⟩, 11), (⟨"StairWays$Throng", "passStep", "(LStairWays$Stair;II)V"⟩, 11), (⟨"StairWays$Throng", "placeOf", "(LStairWays$Stair;LStairWays$Climber;)I"⟩, 11), (⟨"StairWays$Throng", "part", "(LStairWays$Stair;J)V"⟩, 11), (⟨"StairWays$Throng", "send", "(LStairWays$Stair;IJ)V"⟩, 11), (⟨"StairWays$Pair", "beat", "(LStairWays$Stair;II)V"⟩, 1), (⟨"StairWays$Ways", "winning", "(LStairWays$Stair;LStairWays$Climber;I)I"⟩, 11), (⟨"StairWays$Sweep", "findReached", "(LStairWays$Stair;[I)V"⟩, 3), (⟨"StairWays$Sweep", "leads", "(II)Z"⟩, 3), (⟨"StairWays$Sweep", "joins", "(LStairWays$Stair;[III)Z"⟩, 3), (⟨"StairWays", "drawBelow", "(I)I"⟩, 14)]
theorem lw_r3 : ∀ q ∈ lw_privs_3, lw_okq q := List.forall_mem_cons.mpr ⟨lw_p32, List.forall_mem_cons.mpr ⟨lw_p33, List.forall_mem_cons.mpr ⟨lw_p34, List.forall_mem_cons.mpr ⟨lw_p35, List.forall_mem_cons.mpr ⟨lw_p36, List.forall_mem_cons.mpr ⟨lw_p37, List.forall_mem_cons.mpr ⟨lw_p38, List.forall_mem_cons.mpr ⟨lw_p39, List.forall_mem_cons.mpr ⟨lw_p40, List.forall_mem_cons.mpr ⟨lw_p41, List.forall_mem_cons.mpr ⟨lw_p42, List.forall_mem_cons.mpr ⟨lw_p43, List.forall_mem_cons.mpr ⟨lw_p44, List.forall_mem_cons.mpr ⟨lw_p45, List.forall_mem_cons.mpr ⟨lw_p46, List.forall_mem_cons.mpr ⟨lw_p47, fun _ h => absurd h List.not_mem_nil⟩⟩⟩⟩⟩⟩⟩⟩⟩⟩⟩⟩⟩⟩⟩⟩
theorem lw_p48 : lw_okq (⟨"StairWays", "strideWeighing", "(I)I"⟩, 14) := ⟨⟨by decide +kernel, by decide +kernel⟩, List.mem_of_getElem? (i := 26) (by decide +kernel), List.mem_of_getElem? (i := 1080) (by decide +kernel), List.mem_of_getElem? (i := 1081) (by decide +kernel)⟩
theorem lw_p49 : lw_okq (⟨"java/lang/Throwable", "fillInStackTrace", "(I)Ljava/lang/Throwable;"⟩, 6) := ⟨⟨by decide +kernel, by decide +kernel⟩, List.mem_of_getElem? (i := 1138) (by decide +kernel), List.mem_of_getElem? (i := 1136) (by decide +kernel), List.mem_of_getElem? (i := 1137) (by decide +kernel)⟩
theorem lw_p50 : lw_okq (⟨"StairWays$Rests", "findFirst", "(LStairWays$Stair;I)V"⟩, 3) := ⟨⟨by decide +kernel, by decide +kernel⟩, List.mem_of_getElem? (i := 237) (by decide +kernel), List.mem_of_getElem? (i := 1167) (by decide +kernel), List.mem_of_getElem? (i := 1168) (by decide +kernel)⟩
theorem lw_p51 : lw_okq (⟨"StairWays$Rests", "square", "(LStairWays$Stair;II)V"⟩, 3) := ⟨⟨by decide +kernel, by decide +kernel⟩, List.mem_of_getElem? (i := 237) (by decide +kernel), List.mem_of_getElem? (i := 1171) (by decide +kernel), List.mem_of_getElem? (i := 1172) (by decide +kernel)⟩
theorem lw_p52 : lw_okq (⟨"StairWaysModel", "lay", "(J)V"⟩, 37) := ⟨⟨by decide +kernel, by decide +kernel⟩, List.mem_of_getElem? (i := 1186) (by decide +kernel), List.mem_of_getElem? (i := 1184) (by decide +kernel), List.mem_of_getElem? (i := 1185) (by decide +kernel)⟩
theorem lw_p53 : lw_okq (⟨"StairWaysModel", "standsAsAlways", "(I)V"⟩, 37) := ⟨⟨by decide +kernel, by decide +kernel⟩, List.mem_of_getElem? (i := 1186) (by decide +kernel), List.mem_of_getElem? (i := 1217) (by decide +kernel), List.mem_of_getElem? (i := 1218) (by decide +kernel)⟩
theorem lw_p54 : lw_okq (⟨"StairWaysModel", "cutAll", "()V"⟩, 37) := ⟨⟨by decide +kernel, by decide +kernel⟩, List.mem_of_getElem? (i := 1186) (by decide +kernel), List.mem_of_getElem? (i := 1338) (by decide +kernel), List.mem_of_getElem? (i := 1339) (by decide +kernel)⟩
theorem lw_p55 : lw_okq (⟨"StairWaysModel", "takeWord", "(I)V"⟩, 37) := ⟨⟨by decide +kernel, by decide +kernel⟩, List.mem_of_getElem? (i := 1186) (by decide +kernel), List.mem_of_getElem? (i := 1357) (by decide +kernel), List.mem_of_getElem? (i := 1358) (by decide +kernel)⟩
theorem lw_p56 : lw_okq (⟨"StairWaysModel", "hasWord", "(I)Z"⟩, 37) := ⟨⟨by decide +kernel, by decide +kernel⟩, List.mem_of_getElem? (i := 1186) (by decide +kernel), List.mem_of_getElem? (i := 1361) (by decide +kernel), List.mem_of_getElem? (i := 1362) (by decide +kernel)⟩
theorem lw_p57 : lw_okq (⟨"StairWaysModel", "isWord", "(I)Z"⟩, 37) := ⟨⟨by decide +kernel, by decide +kernel⟩, List.mem_of_getElem? (i := 1186) (by decide +kernel), List.mem_of_getElem? (i := 1365) (by decide +kernel), List.mem_of_getElem? (i := 1366) (by decide +kernel)⟩
theorem lw_p58 : lw_okq (⟨"StairWaysModel", "wrong", "(I)V"⟩, 37) := ⟨⟨by decide +kernel, by decide +kernel⟩, List.mem_of_getElem? (i := 1186) (by decide +kernel), List.mem_of_getElem? (i := 1369) (by decide +kernel), List.mem_of_getElem? (i := 1370) (by decide +kernel)⟩
theorem lw_p59 : lw_okq (⟨"StairWaysModel", "takeNumber", "(II)I"⟩, 37) := ⟨⟨by decide +kernel, by decide +kernel⟩, List.mem_of_getElem? (i := 1186) (by decide +kernel), List.mem_of_getElem? (i := 1373) (by decide +kernel), List.mem_of_getElem? (i := 1374) (by decide +kernel)⟩
theorem lw_p60 : lw_okq (⟨"StairWaysModel", "takeSign", "(I)V"⟩, 37) := ⟨⟨by decide +kernel, by decide +kernel⟩, List.mem_of_getElem? (i := 1186) (by decide +kernel), List.mem_of_getElem? (i := 1377) (by decide +kernel), List.mem_of_getElem? (i := 1378) (by decide +kernel)⟩
theorem lw_p61 : lw_okq (⟨"StairWaysModel", "isSign", "(I)Z"⟩, 37) := ⟨⟨by decide +kernel, by decide +kernel⟩, List.mem_of_getElem? (i := 1186) (by decide +kernel), List.mem_of_getElem? (i := 1381) (by decide +kernel), List.mem_of_getElem? (i := 1382) (by decide +kernel)⟩
theorem lw_p62 : lw_okq (⟨"StairWaysModel", "readLine", "()V"⟩, 37) := ⟨⟨by decide +kernel, by decide +kernel⟩, List.mem_of_getElem? (i := 1186) (by decide +kernel), List.mem_of_getElem? (i := 1385) (by decide +kernel), List.mem_of_getElem? (i := 1386) (by decide +kernel)⟩
theorem lw_p63 : lw_okq (⟨"StairWaysModel", "readStep", "()V"⟩, 37) := ⟨⟨by decide +kernel, by decide +kernel⟩, List.mem_of_getElem? (i := 1186) (by decide +kernel), List.mem_of_getElem? (i := 1389) (by decide +kernel), List.mem_of_getElem? (i := 1390) (by decide +kernel)⟩
def lw_privs_4 : List (MethodName × Nat) := [(⟨"StairWays", "strideWeighing", "(I)I"⟩, 14), (⟨"java/lang/Throwable", "fillInStackTrace", "(I)Ljava/lang/Throwable;"⟩, 6), (⟨"StairWays$Rests", "findFirst", "(LStairWays$Stair;I)V"⟩, 3), (⟨"StairWays$Rests", "square", "(LStairWays$Stair;II)V"⟩, 3), (⟨"StairWaysModel", "lay", "(J)V"⟩, 37), (⟨"StairWaysModel", "standsAsAlways", "(I)V"⟩, 37), (⟨"StairWaysModel", "cutAll", "()V"⟩, 37), (⟨"StairWaysModel", "takeWord", "(I)V"⟩, 37), (⟨"StairWaysModel", "hasWord", "(I)Z"⟩, 37), (⟨"StairWaysModel", "isWord", "(I)Z"⟩, 37), (⟨"StairWaysModel", "wrong", "(I)V"⟩, 37), (⟨"StairWaysModel", "takeNumber", "(II)I"⟩, 37), (⟨"StairWaysModel", "takeSign", "(I)V"⟩, 37), (⟨"StairWaysModel", "isSign", "(I)Z"⟩, 37), (⟨"StairWaysModel", "readLine", "()V"⟩, 37), (⟨"StairWaysModel", "readStep", "()V"⟩, 37)]
theorem lw_r4 : ∀ q ∈ lw_privs_4, lw_okq q := List.forall_mem_cons.mpr ⟨lw_p48, List.forall_mem_cons.mpr ⟨lw_p49, List.forall_mem_cons.mpr ⟨lw_p50, List.forall_mem_cons.mpr ⟨lw_p51, List.forall_mem_cons.mpr ⟨lw_p52, List.forall_mem_cons.mpr ⟨lw_p53, List.forall_mem_cons.mpr ⟨lw_p54, List.forall_mem_cons.mpr ⟨lw_p55, List.forall_mem_cons.mpr ⟨lw_p56, List.forall_mem_cons.mpr ⟨lw_p57, List.forall_mem_cons.mpr ⟨lw_p58, List.forall_mem_cons.mpr ⟨lw_p59, List.forall_mem_cons.mpr ⟨lw_p60, List.forall_mem_cons.mpr ⟨lw_p61, List.forall_mem_cons.mpr ⟨lw_p62, List.forall_mem_cons.mpr ⟨lw_p63, fun _ h => absurd h List.not_mem_nil⟩⟩⟩⟩⟩⟩⟩⟩⟩⟩⟩⟩⟩⟩⟩⟩
theorem lw_p64 : lw_okq (⟨"StairWaysModel", "readBar", "()V"⟩, 37) := ⟨⟨by decide +kernel, by decide +kernel⟩, List.mem_of_getElem? (i := 1186) (by decide +kernel), List.mem_of_getElem? (i := 1393) (by decide +kernel), List.mem_of_getElem? (i := 1394) (by decide +kernel)⟩
theorem lw_p65 : lw_okq (⟨"StairWaysModel", "isBarred", "(III)Z"⟩, 37) := ⟨⟨by decide +kernel, by decide +kernel⟩, List.mem_of_getElem? (i := 1186) (by decide +kernel), List.mem_of_getElem? (i := 1397) (by decide +kernel), List.mem_of_getElem? (i := 1398) (by decide +kernel)⟩
theorem lw_p66 : lw_okq (⟨"StairWaysModel", "readStrides", "()V"⟩, 37) := ⟨⟨by decide +kernel, by decide +kernel⟩, List.mem_of_getElem? (i := 1186) (by decide +kernel), List.mem_of_getElem? (i := 1401) (by decide +kernel), List.mem_of_getElem? (i := 1402) (by decide +kernel)⟩
theorem lw_p67 : lw_okq (⟨"StairWaysModel", "isOnce", "(I)Z"⟩, 37) := ⟨⟨by decide +kernel, by decide +kernel⟩, List.mem_of_getElem? (i := 1186) (by decide +kernel), List.mem_of_getElem? (i := 1405) (by decide +kernel), List.mem_of_getElem? (i := 1406) (by decide +kernel)⟩
theorem lw_p68 : lw_okq (⟨"StairWaysModel", "readStride", "()V"⟩, 37) := ⟨⟨by decide +kernel, by decide +kernel⟩, List.mem_of_getElem? (i := 1186) (by decide +kernel), List.mem_of_getElem? (i := 1409) (by decide +kernel), List.mem_of_getElem? (i := 1410) (by decide +kernel)⟩
theorem lw_p69 : lw_okq (⟨"StairWaysModel", "readFoot", "()V"⟩, 37) := ⟨⟨by decide +kernel, by decide +kernel⟩, List.mem_of_getElem? (i := 1186) (by decide +kernel), List.mem_of_getElem? (i := 1413) (by decide +kernel), List.mem_of_getElem? (i := 1414) (by decide +kernel)⟩
theorem lw_p70 : lw_okq (⟨"StairWaysModel", "takeAfter", "(III)I"⟩, 37) := ⟨⟨by decide +kernel, by decide +kernel⟩, List.mem_of_getElem? (i := 1186) (by decide +kernel), List.mem_of_getElem? (i := 1417) (by decide +kernel), List.mem_of_getElem? (i := 1418) (by decide +kernel)⟩
theorem lw_p71 : lw_okq (⟨"StairWaysModel", "all", "(I)V"⟩, 37) := ⟨⟨by decide +kernel, by decide +kernel⟩, List.mem_of_getElem? (i := 1186) (by decide +kernel), List.mem_of_getElem? (i := 1421) (by decide +kernel), List.mem_of_getElem? (i := 1422) (by decide +kernel)⟩
theorem lw_p72 : lw_okq (⟨"StairWaysModel", "test", "(I)V"⟩, 37) := ⟨⟨by decide +kernel, by decide +kernel⟩, List.mem_of_getElem? (i := 1186) (by decide +kernel), List.mem_of_getElem? (i := 1425) (by decide +kernel), List.mem_of_getElem? (i := 1426) (by decide +kernel)⟩
theorem lw_p73 : lw_okq (⟨"StairWaysModel", "sums", "(I)V"⟩, 37) := ⟨⟨by decide +kernel, by decide +kernel⟩, List.mem_of_getElem? (i := 1186) (by decide +kernel), List.mem_of_getElem? (i := 1429) (by decide +kernel), List.mem_of_getElem? (i := 1430) (by decide +kernel)⟩
theorem lw_p74 : lw_okq (⟨"StairWaysModel", "products", "(I)V"⟩, 37) := ⟨⟨by decide +kernel, by decide +kernel⟩, List.mem_of_getElem? (i := 1186) (by decide +kernel), List.mem_of_getElem? (i := 1433) (by decide +kernel), List.mem_of_getElem? (i := 1434) (by decide +kernel)⟩
theorem lw_p75 : lw_okq (⟨"StairWaysModel", "takePart", "(I)V"⟩, 37) := ⟨⟨by decide +kernel, by decide +kernel⟩, List.mem_of_getElem? (i := 1186) (by decide +kernel), List.mem_of_getElem? (i := 1437) (by decide +kernel), List.mem_of_getElem? (i := 1438) (by decide +kernel)⟩
theorem lw_p76 : lw_okq (⟨"StairWaysModel", "emit", "(II)V"⟩, 37) := ⟨⟨by decide +kernel, by decide +kernel⟩, List.mem_of_getElem? (i := 1186) (by decide +kernel), List.mem_of_getElem? (i := 1441) (by decide +kernel), List.mem_of_getElem? (i := 1442) (by decide +kernel)⟩
theorem lw_p77 : lw_okq (⟨"StairWaysModel", "hasSign", "(I)Z"⟩, 37) := ⟨⟨by decide +kernel, by decide +kernel⟩, List.mem_of_getElem? (i := 1186) (by decide +kernel), List.mem_of_getElem? (i := 1445) (by decide +kernel), List.mem_of_getElem? (i := 1446) (by decide +kernel)⟩
theorem lw_p78 : lw_okq (⟨"StairWaysModel", "sorts", "()V"⟩, 37) := ⟨⟨by decide +kernel, by decide +kernel⟩, List.mem_of_getElem? (i := 1186) (by decide +kernel), List.mem_of_getElem? (i := 1449) (by decide +kernel), List.mem_of_getElem? (i := 1450) (by decide +kernel)⟩
theorem lw_p79 : lw_okq (⟨"StairWaysModel", "strides", "()I"⟩, 37) := ⟨⟨by decide +kernel, by decide +kernel⟩, List.mem_of_getElem? (i := 1186) (by decide +kernel), List.mem_of_getElem? (i := 1453) (by decide +kernel), List.mem_of_getElem? (i := 1454) (by decide +kernel)⟩
def lw_privs_5 : List (MethodName × Nat) := [(⟨"StairWaysModel", "readBar", "()V"⟩, 37), (⟨"StairWaysModel", "isBarred", "(III)Z"⟩, 37), (⟨"StairWaysModel", "readStrides", "()V"⟩, 37), (⟨"StairWaysModel", "isOnce", "(I)Z"⟩, 37), (⟨"StairWaysModel", "readStride", "()V"⟩, 37), (⟨"StairWaysModel", "readFoot", "()V"⟩, 37), (⟨"StairWaysModel", "takeAfter", "(III)I"⟩, 37), (⟨"StairWaysModel", "all", "(I)V"⟩, 37), (⟨"StairWaysModel", "test", "(I)V"⟩, 37), (⟨"StairWaysModel", "sums", "(I)V"⟩, 37), (⟨"StairWaysModel", "products", "(I)V"⟩, 37), (⟨"StairWaysModel", "takePart", "(I)V"⟩, 37), (⟨"StairWaysModel", "emit", "(II)V"⟩, 37), (⟨"StairWaysModel", "hasSign", "(I)Z"⟩, 37), (⟨"StairWaysModel", "sorts", "()V"⟩, 37), (⟨"StairWaysModel", "strides", "()I"⟩, 37)]
theorem lw_r5 : ∀ q ∈ lw_privs_5, lw_okq q := List.forall_mem_cons.mpr ⟨lw_p64, List.forall_mem_cons.mpr ⟨lw_p65, List.forall_mem_cons.mpr ⟨lw_p66, List.forall_mem_cons.mpr ⟨lw_p67, List.forall_mem_cons.mpr ⟨lw_p68, List.forall_mem_cons.mpr ⟨lw_p69, List.forall_mem_cons.mpr ⟨lw_p70, List.forall_mem_cons.mpr ⟨lw_p71, List.forall_mem_cons.mpr ⟨lw_p72, List.forall_mem_cons.mpr ⟨lw_p73, List.forall_mem_cons.mpr ⟨lw_p74, List.forall_mem_cons.mpr ⟨lw_p75, List.forall_mem_cons.mpr ⟨lw_p76, List.forall_mem_cons.mpr ⟨lw_p77, List.forall_mem_cons.mpr ⟨lw_p78, List.forall_mem_cons.mpr ⟨lw_p79, fun _ h => absurd h List.not_mem_nil⟩⟩⟩⟩⟩⟩⟩⟩⟩⟩⟩⟩⟩⟩⟩⟩
theorem lw_p80 : lw_okq (⟨"StairWaysModel", "steps", "()I"⟩, 37) := ⟨⟨by decide +kernel, by decide +kernel⟩, List.mem_of_getElem? (i := 1186) (by decide +kernel), List.mem_of_getElem? (i := 1461) (by decide +kernel), List.mem_of_getElem? (i := 1462) (by decide +kernel)⟩
theorem lw_p81 : lw_okq (⟨"StairWaysModel", "findHeaps", "()V"⟩, 37) := ⟨⟨by decide +kernel, by decide +kernel⟩, List.mem_of_getElem? (i := 1186) (by decide +kernel), List.mem_of_getElem? (i := 1468) (by decide +kernel), List.mem_of_getElem? (i := 1469) (by decide +kernel)⟩
theorem lw_p82 : lw_okq (⟨"StairWaysModel", "strideOf", "(I)I"⟩, 37) := ⟨⟨by decide +kernel, by decide +kernel⟩, List.mem_of_getElem? (i := 1186) (by decide +kernel), List.mem_of_getElem? (i := 1472) (by decide +kernel), List.mem_of_getElem? (i := 1473) (by decide +kernel)⟩
theorem lw_p83 : lw_okq (⟨"StairWaysModel", "kindOf", "(I)I"⟩, 37) := ⟨⟨by decide +kernel, by decide +kernel⟩, List.mem_of_getElem? (i := 1186) (by decide +kernel), List.mem_of_getElem? (i := 1476) (by decide +kernel), List.mem_of_getElem? (i := 1477) (by decide +kernel)⟩
theorem lw_p84 : lw_okq (⟨"StairWaysModel", "findNow", "()V"⟩, 37) := ⟨⟨by decide +kernel, by decide +kernel⟩, List.mem_of_getElem? (i := 1186) (by decide +kernel), List.mem_of_getElem? (i := 1484) (by decide +kernel), List.mem_of_getElem? (i := 1485) (by decide +kernel)⟩
theorem lw_p85 : lw_okq (⟨"StairWaysModel", "takenMany", "()I"⟩, 37) := ⟨⟨by decide +kernel, by decide +kernel⟩, List.mem_of_getElem? (i := 1186) (by decide +kernel), List.mem_of_getElem? (i := 1488) (by decide +kernel), List.mem_of_getElem? (i := 1489) (by decide +kernel)⟩
theorem lw_p86 : lw_okq (⟨"StairWaysModel", "indexOf", "(I)I"⟩, 37) := ⟨⟨by decide +kernel, by decide +kernel⟩, List.mem_of_getElem? (i := 1186) (by decide +kernel), List.mem_of_getElem? (i := 1492) (by decide +kernel), List.mem_of_getElem? (i := 1493) (by decide +kernel)⟩
theorem lw_p87 : lw_okq (⟨"StairWaysModel", "isGreat", "(I)Z"⟩, 37) := ⟨⟨by decide +kernel, by decide +kernel⟩, List.mem_of_getElem? (i := 1186) (by decide +kernel), List.mem_of_getElem? (i := 1496) (by decide +kernel), List.mem_of_getElem? (i := 1497) (by decide +kernel)⟩
theorem lw_p88 : lw_okq (⟨"StairWaysModel", "mayNow", "(I)Z"⟩, 37) := ⟨⟨by decide +kernel, by decide +kernel⟩, List.mem_of_getElem? (i := 1186) (by decide +kernel), List.mem_of_getElem? (i := 1500) (by decide +kernel), List.mem_of_getElem? (i := 1501) (by decide +kernel)⟩
theorem lw_p89 : lw_okq (⟨"StairWaysModel", "creakOf", "(I)I"⟩, 37) := ⟨⟨by decide +kernel, by decide +kernel⟩, List.mem_of_getElem? (i := 1186) (by decide +kernel), List.mem_of_getElem? (i := 1504) (by decide +kernel), List.mem_of_getElem? (i := 1505) (by decide +kernel)⟩
theorem lw_p90 : lw_okq (⟨"StairWaysModel", "mayNext", "(IIIIII)Z"⟩, 37) := ⟨⟨by decide +kernel, by decide +kernel⟩, List.mem_of_getElem? (i := 1186) (by decide +kernel), List.mem_of_getElem? (i := 1508) (by decide +kernel), List.mem_of_getElem? (i := 1509) (by decide +kernel)⟩
theorem lw_p91 : lw_okq (⟨"StairWaysModel", "isShut", "(I)Z"⟩, 37) := ⟨⟨by decide +kernel, by decide +kernel⟩, List.mem_of_getElem? (i := 1186) (by decide +kernel), List.mem_of_getElem? (i := 1512) (by decide +kernel), List.mem_of_getElem? (i := 1513) (by decide +kernel)⟩
theorem lw_p92 : lw_okq (⟨"StairWaysModel", "passesMust", "(II)Z"⟩, 37) := ⟨⟨by decide +kernel, by decide +kernel⟩, List.mem_of_getElem? (i := 1186) (by decide +kernel), List.mem_of_getElem? (i := 1516) (by decide +kernel), List.mem_of_getElem? (i := 1517) (by decide +kernel)⟩
theorem lw_p93 : lw_okq (⟨"StairWaysModel", "isMust", "(I)Z"⟩, 37) := ⟨⟨by decide +kernel, by decide +kernel⟩, List.mem_of_getElem? (i := 1186) (by decide +kernel), List.mem_of_getElem? (i := 1520) (by decide +kernel), List.mem_of_getElem? (i := 1521) (by decide +kernel)⟩
theorem lw_p94 : lw_okq (⟨"StairWaysModel", "lawfulNow", "()I"⟩, 37) := ⟨⟨by decide +kernel, by decide +kernel⟩, List.mem_of_getElem? (i := 1186) (by decide +kernel), List.mem_of_getElem? (i := 1541) (by decide +kernel), List.mem_of_getElem? (i := 1542) (by decide +kernel)⟩
theorem lw_p95 : lw_okq (⟨"StairWaysModel", "lays", "(IZ)V"⟩, 37) := ⟨⟨by decide +kernel, by decide +kernel⟩, List.mem_of_getElem? (i := 1186) (by decide +kernel), List.mem_of_getElem? (i := 1549) (by decide +kernel), List.mem_of_getElem? (i := 1550) (by decide +kernel)⟩
def lw_privs_6 : List (MethodName × Nat) := [(⟨"StairWaysModel", "steps", "()I"⟩, 37), (⟨"StairWaysModel", "findHeaps", "()V"⟩, 37), (⟨"StairWaysModel", "strideOf", "(I)I"⟩, 37), (⟨"StairWaysModel", "kindOf", "(I)I"⟩, 37), (⟨"StairWaysModel", "findNow", "()V"⟩, 37), (⟨"StairWaysModel", "takenMany", "()I"⟩, 37), (⟨"StairWaysModel", "indexOf", "(I)I"⟩, 37), (⟨"StairWaysModel", "isGreat", "(I)Z"⟩, 37), (⟨"StairWaysModel", "mayNow", "(I)Z"⟩, 37), (⟨"StairWaysModel", "creakOf", "(I)I"⟩, 37), (⟨"StairWaysModel", "mayNext", "(IIIIII)Z"⟩, 37), (⟨"StairWaysModel", "isShut", "(I)Z"⟩, 37), (⟨"StairWaysModel", "passesMust", "(II)Z"⟩, 37), (⟨"StairWaysModel", "isMust", "(I)Z"⟩, 37), (⟨"StairWaysModel", "lawfulNow", "()I"⟩, 37), (⟨"StairWaysModel", "lays", "(IZ)V"⟩, 37)]
theorem lw_r6 : ∀ q ∈ lw_privs_6, lw_okq q := List.forall_mem_cons.mpr ⟨lw_p80, List.forall_mem_cons.mpr ⟨lw_p81, List.forall_mem_cons.mpr ⟨lw_p82, List.forall_mem_cons.mpr ⟨lw_p83, List.forall_mem_cons.mpr ⟨lw_p84, List.forall_mem_cons.mpr ⟨lw_p85, List.forall_mem_cons.mpr ⟨lw_p86, List.forall_mem_cons.mpr ⟨lw_p87, List.forall_mem_cons.mpr ⟨lw_p88, List.forall_mem_cons.mpr ⟨lw_p89, List.forall_mem_cons.mpr ⟨lw_p90, List.forall_mem_cons.mpr ⟨lw_p91, List.forall_mem_cons.mpr ⟨lw_p92, List.forall_mem_cons.mpr ⟨lw_p93, List.forall_mem_cons.mpr ⟨lw_p94, List.forall_mem_cons.mpr ⟨lw_p95, fun _ h => absurd h List.not_mem_nil⟩⟩⟩⟩⟩⟩⟩⟩⟩⟩⟩⟩⟩⟩⟩⟩
theorem lw_p96 : lw_okq (⟨"StairWaysModel", "mostCreaks", "()I"⟩, 37) := ⟨⟨by decide +kernel, by decide +kernel⟩, List.mem_of_getElem? (i := 1186) (by decide +kernel), List.mem_of_getElem? (i := 1553) (by decide +kernel), List.mem_of_getElem? (i := 1554) (by decide +kernel)⟩
theorem lw_p97 : lw_okq (⟨"StairWaysModel", "mostGreats", "()I"⟩, 37) := ⟨⟨by decide +kernel, by decide +kernel⟩, List.mem_of_getElem? (i := 1186) (by decide +kernel), List.mem_of_getElem? (i := 1557) (by decide +kernel), List.mem_of_getElem? (i := 1558) (by decide +kernel)⟩
theorem lw_p98 : lw_okq (⟨"StairWaysModel", "wins", "(IIIII)J"⟩, 37) := ⟨⟨by decide +kernel, by decide +kernel⟩, List.mem_of_getElem? (i := 1186) (by decide +kernel), List.mem_of_getElem? (i := 1564) (by decide +kernel), List.mem_of_getElem? (i := 1565) (by decide +kernel)⟩
theorem lw_p99 : lw_okq (⟨"StairWaysModel", "nextAt", "(IIIIII)I"⟩, 37) := ⟨⟨by decide +kernel, by decide +kernel⟩, List.mem_of_getElem? (i := 1186) (by decide +kernel), List.mem_of_getElem? (i := 1568) (by decide +kernel), List.mem_of_getElem? (i := 1569) (by decide +kernel)⟩
theorem lw_p100 : lw_okq (⟨"StairWaysModel", "ways", "(IIIIII)J"⟩, 37) := ⟨⟨by decide +kernel, by decide +kernel⟩, List.mem_of_getElem? (i := 1186) (by decide +kernel), List.mem_of_getElem? (i := 1572) (by decide +kernel), List.mem_of_getElem? (i := 1573) (by decide +kernel)⟩
theorem lw_p101 : lw_okq (⟨"StairWaysModel", "isLawfulAt", "(I)Z"⟩, 37) := ⟨⟨by decide +kernel, by decide +kernel⟩, List.mem_of_getElem? (i := 1186) (by decide +kernel), List.mem_of_getElem? (i := 1576) (by decide +kernel), List.mem_of_getElem? (i := 1577) (by decide +kernel)⟩
theorem lw_p102 : lw_okq (⟨"StairWaysModel", "nowAt", "()I"⟩, 37) := ⟨⟨by decide +kernel, by decide +kernel⟩, List.mem_of_getElem? (i := 1186) (by decide +kernel), List.mem_of_getElem? (i := 1580) (by decide +kernel), List.mem_of_getElem? (i := 1581) (by decide +kernel)⟩
theorem lw_p103 : lw_okq (⟨"StairWaysModel", "strideAt", "(JI)I"⟩, 37) := ⟨⟨by decide +kernel, by decide +kernel⟩, List.mem_of_getElem? (i := 1186) (by decide +kernel), List.mem_of_getElem? (i := 1597) (by decide +kernel), List.mem_of_getElem? (i := 1598) (by decide +kernel)⟩
theorem lw_p104 : lw_okq (⟨"StairWaysModel", "multiplies", "([J[JI)V"⟩, 37) := ⟨⟨by decide +kernel, by decide +kernel⟩, List.mem_of_getElem? (i := 1186) (by decide +kernel), List.mem_of_getElem? (i := 1606) (by decide +kernel), List.mem_of_getElem? (i := 1607) (by decide +kernel)⟩
theorem lw_p105 : lw_okq (⟨"StairWaysModel", "squares", "(I)V"⟩, 37) := ⟨⟨by decide +kernel, by decide +kernel⟩, List.mem_of_getElem? (i := 1186) (by decide +kernel), List.mem_of_getElem? (i := 1610) (by decide +kernel), List.mem_of_getElem? (i := 1611) (by decide +kernel)⟩
theorem lw_p106 : lw_okq (⟨"StairWaysModel", "goesCrowd", "(J)V"⟩, 37) := ⟨⟨by decide +kernel, by decide +kernel⟩, List.mem_of_getElem? (i := 1186) (by decide +kernel), List.mem_of_getElem? (i := 1622) (by decide +kernel), List.mem_of_getElem? (i := 1623) (by decide +kernel)⟩
theorem lw_p107 : lw_okq (⟨"StairWaysModel", "parts", "(IIIII)V"⟩, 37) := ⟨⟨by decide +kernel, by decide +kernel⟩, List.mem_of_getElem? (i := 1186) (by decide +kernel), List.mem_of_getElem? (i := 1626) (by decide +kernel), List.mem_of_getElem? (i := 1627) (by decide +kernel)⟩
theorem lw_p108 : lw_okq (⟨"StairWaysModel", "weightAt", "(IIIIII)I"⟩, 37) := ⟨⟨by decide +kernel, by decide +kernel⟩, List.mem_of_getElem? (i := 1186) (by decide +kernel), List.mem_of_getElem? (i := 1630) (by decide +kernel), List.mem_of_getElem? (i := 1631) (by decide +kernel)⟩
theorem lw_p109 : lw_okq (⟨"StairWaysModel", "worthAt", "(I)I"⟩, 37) := ⟨⟨by decide +kernel, by decide +kernel⟩, List.mem_of_getElem? (i := 1186) (by decide +kernel), List.mem_of_getElem? (i := 1634) (by decide +kernel), List.mem_of_getElem? (i := 1635) (by decide +kernel)⟩
theorem lw_p110 : lw_okq (⟨"StairWaysModel", "moves", "(IIIIIIJ)V"⟩, 37) := ⟨⟨by decide +kernel, by decide +kernel⟩, List.mem_of_getElem? (i := 1186) (by decide +kernel), List.mem_of_getElem? (i := 1641) (by decide +kernel), List.mem_of_getElem? (i := 1642) (by decide +kernel)⟩
theorem lw_p111 : lw_okq (⟨"StairWaysModel", "comes", "(III)I"⟩, 37) := ⟨⟨by decide +kernel, by decide +kernel⟩, List.mem_of_getElem? (i := 1186) (by decide +kernel), List.mem_of_getElem? (i := 1657) (by decide +kernel), List.mem_of_getElem? (i := 1658) (by decide +kernel)⟩
def lw_privs_7 : List (MethodName × Nat) := [(⟨"StairWaysModel", "mostCreaks", "()I"⟩, 37), (⟨"StairWaysModel", "mostGreats", "()I"⟩, 37), (⟨"StairWaysModel", "wins", "(IIIII)J"⟩, 37), (⟨"StairWaysModel", "nextAt", "(IIIIII)I"⟩, 37), (⟨"StairWaysModel", "ways", "(IIIIII)J"⟩, 37), (⟨"StairWaysModel", "isLawfulAt", "(I)Z"⟩, 37), (⟨"StairWaysModel", "nowAt", "()I"⟩, 37), (⟨"StairWaysModel", "strideAt", "(JI)I"⟩, 37), (⟨"StairWaysModel", "multiplies", "([J[JI)V"⟩, 37), (⟨"StairWaysModel", "squares", "(I)V"⟩, 37), (⟨"StairWaysModel", "goesCrowd", "(J)V"⟩, 37), (⟨"StairWaysModel", "parts", "(IIIII)V"⟩, 37), (⟨"StairWaysModel", "weightAt", "(IIIIII)I"⟩, 37), (⟨"StairWaysModel", "worthAt", "(I)I"⟩, 37), (⟨"StairWaysModel", "moves", "(IIIIIIJ)V"⟩, 37), (⟨"StairWaysModel", "comes", "(III)I"⟩, 37)]
theorem lw_r7 : ∀ q ∈ lw_privs_7, lw_okq q := List.forall_mem_cons.mpr ⟨lw_p96, List.forall_mem_cons.mpr ⟨lw_p97, List.forall_mem_cons.mpr ⟨lw_p98, List.forall_mem_cons.mpr ⟨lw_p99, List.forall_mem_cons.mpr ⟨lw_p100, List.forall_mem_cons.mpr ⟨lw_p101, List.forall_mem_cons.mpr ⟨lw_p102, List.forall_mem_cons.mpr ⟨lw_p103, List.forall_mem_cons.mpr ⟨lw_p104, List.forall_mem_cons.mpr ⟨lw_p105, List.forall_mem_cons.mpr ⟨lw_p106, List.forall_mem_cons.mpr ⟨lw_p107, List.forall_mem_cons.mpr ⟨lw_p108, List.forall_mem_cons.mpr ⟨lw_p109, List.forall_mem_cons.mpr ⟨lw_p110, List.forall_mem_cons.mpr ⟨lw_p111, fun _ h => absurd h List.not_mem_nil⟩⟩⟩⟩⟩⟩⟩⟩⟩⟩⟩⟩⟩⟩⟩⟩
theorem lw_p112 : lw_okq (⟨"StairWaysModel", "findLeads", "()V"⟩, 37) := ⟨⟨by decide +kernel, by decide +kernel⟩, List.mem_of_getElem? (i := 1186) (by decide +kernel), List.mem_of_getElem? (i := 1681) (by decide +kernel), List.mem_of_getElem? (i := 1682) (by decide +kernel)⟩
theorem lw_p113 : lw_okq (⟨"StairWaysModel", "isOpen", "(I)Z"⟩, 37) := ⟨⟨by decide +kernel, by decide +kernel⟩, List.mem_of_getElem? (i := 1186) (by decide +kernel), List.mem_of_getElem? (i := 1685) (by decide +kernel), List.mem_of_getElem? (i := 1686) (by decide +kernel)⟩
theorem lw_p114 : lw_okq (⟨"StairWaysModel", "isTrodden", "(I)Z"⟩, 37) := ⟨⟨by decide +kernel, by decide +kernel⟩, List.mem_of_getElem? (i := 1186) (by decide +kernel), List.mem_of_getElem? (i := 1689) (by decide +kernel), List.mem_of_getElem? (i := 1690) (by decide +kernel)⟩
theorem lw_p115 : lw_okq (⟨"StairWaysModel", "finds", "(I)Z"⟩, 37) := ⟨⟨by decide +kernel, by decide +kernel⟩, List.mem_of_getElem? (i := 1186) (by decide +kernel), List.mem_of_getElem? (i := 1693) (by decide +kernel), List.mem_of_getElem? (i := 1694) (by decide +kernel)⟩
theorem lw_p116 : lw_okq (⟨"StairWaysModel", "draw", "(I)I"⟩, 37) := ⟨⟨by decide +kernel, by decide +kernel⟩, List.mem_of_getElem? (i := 1186) (by decide +kernel), List.mem_of_getElem? (i := 1706) (by decide +kernel), List.mem_of_getElem? (i := 1707) (by decide +kernel)⟩
def lw_privs_8 : List (MethodName × Nat) := [(⟨"StairWaysModel", "findLeads", "()V"⟩, 37), (⟨"StairWaysModel", "isOpen", "(I)Z"⟩, 37), (⟨"StairWaysModel", "isTrodden", "(I)Z"⟩, 37), (⟨"StairWaysModel", "finds", "(I)Z"⟩, 37), (⟨"StairWaysModel", "draw", "(I)I"⟩, 37)]
theorem lw_r8 : ∀ q ∈ lw_privs_8, lw_okq q := List.forall_mem_cons.mpr ⟨lw_p112, List.forall_mem_cons.mpr ⟨lw_p113, List.forall_mem_cons.mpr ⟨lw_p114, List.forall_mem_cons.mpr ⟨lw_p115, List.forall_mem_cons.mpr ⟨lw_p116, fun _ h => absurd h List.not_mem_nil⟩⟩⟩⟩⟩
def lw_privs : List (MethodName × Nat) := lw_privs_1 ++ (lw_privs_2 ++ (lw_privs_3 ++ (lw_privs_4 ++ (lw_privs_5 ++ (lw_privs_6 ++ (lw_privs_7 ++ (lw_privs_8)))))))
def lw_tbl : List Cond := k2_sels lw_privs ++ tables_1
theorem lw_privs_ok : ∀ q ∈ lw_privs, lw_okq q := by
  show ∀ q ∈ lw_privs_1 ++ (lw_privs_2 ++ (lw_privs_3 ++ (lw_privs_4 ++ (lw_privs_5 ++ (lw_privs_6 ++ (lw_privs_7 ++ (lw_privs_8))))))), lw_okq q
  exact List.forall_mem_append.mpr ⟨lw_r1, List.forall_mem_append.mpr ⟨lw_r2, List.forall_mem_append.mpr ⟨lw_r3, List.forall_mem_append.mpr ⟨lw_r4, List.forall_mem_append.mpr ⟨lw_r5, List.forall_mem_append.mpr ⟨lw_r6, List.forall_mem_append.mpr ⟨lw_r7, lw_r8⟩⟩⟩⟩⟩⟩⟩
end
section
/-! THE PURE MACHINE: a small machine over ids in place of addresses, in which all the reasoning on what the methods answer is done; part 03 says that the JVM does what it does. -/
abbrev Hp : Type := (Nat → Nat → Int32) × (Nat → Nat → Int64) × (Nat → Nat → Option Nat) × (Nat → Nat) × (Nat → Nat) × Nat × Nat
/-- ints, longs, references of the cell r at place k; its kind, its length; how many cells, how many slots -/
def hI (h : Hp) : Nat → Nat → Int32 := h.1
def hL (h : Hp) : Nat → Nat → Int64 := h.2.1
def hR (h : Hp) : Nat → Nat → Option Nat := h.2.2.1
def hK (h : Hp) : Nat → Nat := h.2.2.2.1
def hN (h : Hp) : Nat → Nat := h.2.2.2.2.1
def hC (h : Hp) : Nat := h.2.2.2.2.2.1
def hS (h : Hp) : Nat := h.2.2.2.2.2.2
def sI (h : Hp) (r k : Nat) (v : Int32) : Hp := (fun a b => if a = r ∧ b = k then v else h.1 a b, h.2)
def sL (h : Hp) (r k : Nat) (v : Int64) : Hp := (h.1, fun a b => if a = r ∧ b = k then v else h.2.1 a b, h.2.2)
def sR (h : Hp) (r k : Nat) (v : Nat) : Hp := (h.1, h.2.1, fun a b => if a = r ∧ b = k then some v else h.2.2.1 a b, h.2.2.2)
/-- a new cell of a kind: len places, n slots -/
def sN (h : Hp) (kd len n : Nat) : Hp :=
  (fun a b => if a = hC h then 0 else h.1 a b, fun a b => if a = hC h then 0 else h.2.1 a b, fun a b => if a = hC h then none else h.2.2.1 a b,
   fun a => if a = hC h then kd else h.2.2.2.1 a, fun a => if a = hC h then len else h.2.2.2.2.1 a, hC h + 1, hS h + n)
/-- arraycopy of ints -/
def sCp (h : Hp) (src sp dst dp n : Nat) : Hp := (fun a b => if a = dst ∧ (dp ≤ b ∧ b < dp + n) then h.1 src (sp + (b - dp)) else h.1 a b, h.2)
abbrev AV : Type := Int32 ⊕ Int64 ⊕ (Nat × Nat)
abbrev vI (x : Int32) : AV := .inl x
abbrev vL (x : Int64) : AV := .inr (.inl x)
abbrev vR (k r : Nat) : AV := .inr (.inr (k, r))
abbrev Lo : Type := List (Option AV)
abbrev St : Type := Nat × Lo × List AV × Hp
abbrev Rs : Type := Option AV × Hp
/-- an instruction: its kind, the next pc, numbers a b c, an int, a long, targets -/
abbrev En : Type := Nat × Nat × Nat × Nat × Nat × Int32 × Int64 × List Nat
def inb (i : Int32) (n : Nat) : Bool := decide (0 ≤ i.toInt ∧ i.toInt < n)
def isB (x : Int32) : Bool := decide (x = 0 ∨ x = 1)
def isCh (x : Int32) : Bool := decide (0 ≤ x.toInt ∧ x.toInt < 65536)
def ix (i : Int32) : Nat := i.toNatClampNeg
def chr (x : Int32) : Int32 := (x.toUInt32 % 65536).toInt32
def ibin (k : Nat) (x y : Int32) : Int32 := match k with
  | 0 => x + y | 1 => x - y | 2 => x * y | 3 => x &&& y | 4 => x ||| y | 5 => x ^^^ y | 6 => x <<< (y &&& 31) | _ => x >>> (y &&& 31)
def lbin (k : Nat) (x y : Int64) : Int64 := match k with
  | 0 => x + y | 1 => x - y | 2 => x * y | 3 => x &&& y | _ => x ||| y
def irem (x y : Int32) : Int32 := x - x / y * y
def lrem (x y : Int64) : Int64 := x - x / y * y
def lget (lo : Lo) (a : Nat) : Option AV := lo.getD a none
/-- what lies ahead of a place and is a long falls with it -/
def lclr (lo : Lo) (a : Nat) : Lo := match a with
  | 0 => lo
  | b + 1 => match lget lo b with
    | some (.inr (.inl _)) => lo.set b none
    | _ => lo
def lset1 (lo : Lo) (a : Nat) (v : AV) : Lo := (lclr lo a).set a (some v)
def lset2 (lo : Lo) (a : Nat) (v : AV) : Lo := ((lclr lo a).set (a + 1) none).set a (some v)
def lkill (lo : Lo) : List Nat → Lo
  | [] => lo
  | k :: ks => lkill (lo.set k none) ks
def bR {α : Type} (o : Option Nat) (k : Nat → Option α) : Option α := match o with
  | some x => k x
  | none => none
def bI {α : Type} (o : Option Rs) (k : Int32 → Hp → Option α) : Option α := match o with
  | some (some (.inl x), h) => k x h
  | _ => none
def bL {α : Type} (o : Option Rs) (k : Int64 → Hp → Option α) : Option α := match o with
  | some (some (.inr (.inl x)), h) => k x h
  | _ => none
def bV {α : Type} (o : Option Rs) (k : Hp → Option α) : Option α := match o with
  | some (none, h) => k h
  | _ => none
def cnd {α : Type} (c : Nat) (x y : Int32) (t f : α) : α := match c with
  | 0 => if x = y then t else f
  | 1 => if x = y then f else t
  | 2 => if x < y then t else f
  | 3 => if x < y then f else t
  | 4 => if y < x then t else f
  | _ => if y < x then f else t
def swt {α : Type} (x lo : Int32) (tg : List Nat) (k : Nat → α) (d : α) : α := match tg with
  | [] => d
  | t :: ts => if x = lo then k t else swt x (lo + 1) ts k d
section Machine
variable (kn : St → Option Rs) (kc : Nat → List AV → Hp → Option Rs)
def o_ld (e : En) (lo : Lo) (st : List AV) (h : Hp) : Option Rs := match e with
  | (op, nx, a, _, _, ci, cl, _) => match op with
    | 0 => kn (nx, lo, vI ci :: st, h)
    | 1 => kn (nx, lo, vL cl :: st, h)
    | 2 => match lget lo a with
      | some (.inl x) => kn (nx, lo, vI x :: st, h)
      | _ => none
    | 3 => match lget lo a with
      | some (.inr (.inl x)) => kn (nx, lo, vL x :: st, h)
      | _ => none
    | 4 => match lget lo a with
      | some (.inr (.inr (k, r))) => kn (nx, lo, vR k r :: st, h)
      | _ => none
    | 5 => match st with
      | .inl x :: st => kn (nx, lset1 lo a (vI x), st, h)
      | _ => none
    | 6 => match st with
      | .inr (.inl x) :: st => kn (nx, lset2 lo a (vL x), st, h)
      | _ => none
    | 7 => match st with
      | .inr (.inr (k, r)) :: st => kn (nx, lset1 lo a (vR k r), st, h)
      | _ => none
    | _ => match lget lo a with
      | some (.inl x) => kn (nx, lset1 lo a (vI (x + ci)), st, h)
      | _ => none
def o_ar (e : En) (lo : Lo) (st : List AV) (h : Hp) : Option Rs := match e with
  | (op, nx, a, _, _, _, _, _) => match op with
    | 9 => match st with
      | .inl y :: .inl x :: st => kn (nx, lo, vI (ibin a x y) :: st, h)
      | _ => none
    | 10 => match st with
      | .inl y :: .inl x :: st => if y = 0 then none else kn (nx, lo, vI (x / y) :: st, h)
      | _ => none
    | 11 => match st with
      | .inl y :: .inl x :: st => if y = 0 then none else kn (nx, lo, vI (irem x y) :: st, h)
      | _ => none
    | 12 => match st with
      | .inl x :: st => kn (nx, lo, vI (-x) :: st, h)
      | _ => none
    | 13 => match st with
      | .inr (.inl y) :: .inr (.inl x) :: st => kn (nx, lo, vL (lbin a x y) :: st, h)
      | _ => none
    | 14 => match st with
      | .inl y :: .inr (.inl x) :: st => kn (nx, lo, vL (x <<< (y.toInt64 &&& 63)) :: st, h)
      | _ => none
    | 15 => match st with
      | .inl y :: .inr (.inl x) :: st => kn (nx, lo, vL (x >>> (y.toInt64 &&& 63)) :: st, h)
      | _ => none
    | 16 => match st with
      | .inr (.inl y) :: .inr (.inl x) :: st => if y = 0 then none else kn (nx, lo, vL (x / y) :: st, h)
      | _ => none
    | _ => match st with
      | .inr (.inl y) :: .inr (.inl x) :: st => if y = 0 then none else kn (nx, lo, vL (lrem x y) :: st, h)
      | _ => none
def o_cv (e : En) (lo : Lo) (st : List AV) (h : Hp) : Option Rs := match e with
  | (op, nx, a, b, _, ci, _, tg) => match op with
    | 18 => match st with
      | .inl x :: st => kn (nx, lo, vL x.toInt64 :: st, h)
      | _ => none
    | 19 => match st with
      | .inr (.inl x) :: st => kn (nx, lo, vI x.toInt32 :: st, h)
      | _ => none
    | 20 => match st with
      | .inl x :: st => kn (nx, lo, vI (chr x) :: st, h)
      | _ => none
    | 21 => match st with
      | .inr (.inl y) :: .inr (.inl x) :: st => kn (nx, lo, vI (lg_cmp x y) :: st, h)
      | _ => none
    | 22 => match st with
      | .inl x :: st => kn (nx, lo, vI x :: vI x :: st, h)
      | .inr (.inr (k, r)) :: st => kn (nx, lo, vR k r :: vR k r :: st, h)
      | _ => none
    | 23 => match st with
      | .inl y :: .inr (.inr (k, r)) :: st => kn (nx, lo, vI y :: vR k r :: vI y :: vR k r :: st, h)
      | _ => none
    | 24 => match st with
      | .inl y :: .inl x :: st => cnd a x y (kn (b, lo, st, h)) (kn (nx, lo, st, h))
      | _ => none
    | 25 => match st with
      | .inl x :: st => cnd a x 0 (kn (b, lo, st, h)) (kn (nx, lo, st, h))
      | _ => none
    | 26 => kn (b, lo, st, h)
    | 27 => match st with
      | .inl x :: st => swt x ci tg (fun t => kn (t, lo, st, h)) (kn (b, lo, st, h))
      | _ => none
    | _ => match st with
      | .inr (.inr _) :: st => kn (nx, lo, st, h)
      | _ => none
def o_fd (e : En) (lo : Lo) (st : List AV) (h : Hp) : Option Rs := match e with
  | (op, nx, a, b, c, _, _, _) => match op with
    | 29 => match st with
      | .inr (.inr (k, r)) :: st => bif Nat.beq k a then kn (nx, lo, vI (hI h r b) :: st, h) else none
      | _ => none
    | 30 => match st with
      | .inr (.inr (k, r)) :: st => bif Nat.beq k a then kn (nx, lo, vL (hL h r b) :: st, h) else none
      | _ => none
    | 31 => match st with
      | .inr (.inr (k, r)) :: st => bif Nat.beq k a then bR (hR h r b) (fun x => kn (nx, lo, vR c x :: st, h)) else none
      | _ => none
    | 32 => match st with
      | .inl v :: .inr (.inr (k, r)) :: st => bif Nat.beq k a then kn (nx, lo, st, sI h r b v) else none
      | _ => none
    | 33 => match st with
      | .inl v :: .inr (.inr (k, r)) :: st => bif Nat.beq k a then (if isB v then kn (nx, lo, st, sI h r b v) else none) else none
      | _ => none
    | 34 => match st with
      | .inr (.inl v) :: .inr (.inr (k, r)) :: st => bif Nat.beq k a then kn (nx, lo, st, sL h r b v) else none
      | _ => none
    | _ => match st with
      | .inr (.inr (k2, v)) :: .inr (.inr (k, r)) :: st => bif Nat.beq k a && Nat.beq k2 c then kn (nx, lo, st, sR h r b v) else none
      | _ => none
/-- constant texts: their bytes -/
def sbyt : List (List Int32) := [[115]]
def slen (i : Nat) : Nat := (sbyt.getD i []).length
def sby (i j : Nat) : Int32 := (sbyt.getD i []).getD j 0
def o_al (e : En) (lo : Lo) (st : List AV) (h : Hp) : Option Rs := match e with
  | (op, nx, _, _, _, _, _, _) => match op with
    | 36 => match st with
      | .inr (.inr (k, r)) :: st => bif Nat.blt 19 k && Nat.blt k 25 || Nat.beq k 42 then kn (nx, lo, vI (nI (hN h r)) :: st, h) else bif Nat.beq k 41 then kn (nx, lo, vI (nI (slen r)) :: st, h) else none
      | _ => none
    | 37 => match st with
      | .inl i :: .inr (.inr (k, r)) :: st => bif Nat.beq k 20 || Nat.beq k 42 then (if inb i (hN h r) then kn (nx, lo, vI (hI h r (ix i)) :: st, h) else none) else none
      | _ => none
    | 38 => match st with
      | .inl i :: .inr (.inr (k, r)) :: st => bif Nat.beq k 21 then (if inb i (hN h r) then kn (nx, lo, vL (hL h r (ix i)) :: st, h) else none) else none
      | _ => none
    | 39 => match st with
      | .inl i :: .inr (.inr (k, r)) :: st => bif Nat.beq k 22 then (if inb i (hN h r) then kn (nx, lo, vI (hI h r (ix i)) :: st, h) else none) else none
      | _ => none
    | 40 => match st with
      | .inl i :: .inr (.inr (k, r)) :: st => bif Nat.beq k 23 then (if inb i (hN h r) then kn (nx, lo, vI (hI h r (ix i)) :: st, h) else none) else bif Nat.beq k 41 then (if inb i (slen r) then kn (nx, lo, vI (sby r (ix i)) :: st, h) else none) else none
      | _ => none
    | _ => match st with
      | .inl i :: .inr (.inr (k, r)) :: st => bif Nat.beq k 24 then (if inb i (hN h r) then bR (hR h r (ix i)) (fun x => kn (nx, lo, vR 1 x :: st, h)) else none) else none
      | _ => none
def o_as (e : En) (lo : Lo) (st : List AV) (h : Hp) : Option Rs := match e with
  | (op, nx, _, _, _, _, _, _) => match op with
    | 42 => match st with
      | .inl v :: .inl i :: .inr (.inr (k, r)) :: st => bif Nat.beq k 20 then (if inb i (hN h r) then kn (nx, lo, st, sI h r (ix i) v) else none) else none
      | _ => none
    | 43 => match st with
      | .inr (.inl v) :: .inl i :: .inr (.inr (k, r)) :: st => bif Nat.beq k 21 then (if inb i (hN h r) then kn (nx, lo, st, sL h r (ix i) v) else none) else none
      | _ => none
    | 44 => match st with
      | .inl v :: .inl i :: .inr (.inr (k, r)) :: st => bif Nat.beq k 22 then (if inb i (hN h r) then (if isCh v then kn (nx, lo, st, sI h r (ix i) v) else none) else none) else none
      | _ => none
    | 45 => match st with
      | .inl v :: .inl i :: .inr (.inr (k, r)) :: st => bif Nat.beq k 23 then (if inb i (hN h r) then (if isB v then kn (nx, lo, st, sI h r (ix i) v) else none) else none) else none
      | _ => none
    | _ => match st with
      | .inr (.inr (k2, v)) :: .inl i :: .inr (.inr (k, r)) :: st => bif Nat.beq k 24 && Nat.beq k2 1 then (if inb i (hN h r) then kn (nx, lo, st, sR h r (ix i) v) else none) else none
      | _ => none
def o_nw (e : En) (lo : Lo) (st : List AV) (h : Hp) : Option Rs := match e with
  | (op, nx, a, b, _, _, _, _) => match op with
    | 47 => match st with
      | .inl n :: st => if inb n 1000000 then (if hC h < 1000000 then kn (nx, lo, vR a (hC h) :: st, sN h a (ix n) (ix n)) else none) else none
      | _ => none
    | 48 => match st with
      | .inl n :: st => if inb n 1000000 then (if hC h < 1000000 then kn (nx, lo, vR 24 (hC h) :: st, sN h 24 (ix n) (ix n)) else none) else none
      | _ => none
    | _ => if hC h < 1000000 then kn (nx, lo, vR a (hC h) :: st, sN h a 0 b) else none
/-- the receiver's kind -/
def rck (tg : List Nat) (l : List AV) : Bool := match tg with
  | [] => true
  | k :: _ => match l with
    | .inr (.inr (k', _)) :: _ => Nat.beq k' k
    | _ => false
def o_cl (e : En) (lo : Lo) (st : List AV) (h : Hp) : Option Rs := match e with
  | (op, nx, a, b, c, _, _, tg) => match op with
    | 50 => bif Nat.ble b st.length && rck tg (st.drop (b - 1)) then (match c with
      | 0 => bV (kc a (st.take b).reverse h) (fun h => kn (nx, lo, st.drop b, h))
      | 1 => bI (kc a (st.take b).reverse h) (fun x h => kn (nx, lo, vI x :: st.drop b, h))
      | _ => bL (kc a (st.take b).reverse h) (fun x h => kn (nx, lo, vL x :: st.drop b, h))) else none
    | 51 => match st with
      | .inr (.inr _) :: st => kn (nx, lo, st, h)
      | _ => none
    | _ => match st with
      | .inl n :: .inl dp :: .inr (.inr (k1, d)) :: .inl sp :: .inr (.inr (k0, s)) :: st => bif Nat.beq k1 20 && Nat.beq k0 20 then (if 0 ≤ n.toInt ∧ 0 ≤ dp.toInt ∧ 0 ≤ sp.toInt ∧ ix sp + ix n ≤ hN h s ∧ ix dp + ix n ≤ hN h d then kn (nx, lo, st, sCp h s (ix sp) d (ix dp) (ix n)) else none) else none
      | _ => none
def o_rt (e : En) (lo : Lo) (st : List AV) (h : Hp) : Option Rs := match e with
  | (op, nx, a, _, _, ci, _, _) => match op with
    | 53 => match st with
      | [.inl x] => match a with
        | 0 => some (some (vI x), h)
        | 1 => if isB x then some (some (vI x), h) else none
        | _ => if isCh x then some (some (vI x), h) else none
      | _ => none
    | 54 => match st with
      | [.inr (.inl x)] => some (some (vL x), h)
      | _ => none
    | 55 => match st with
      | [] => some (none, h)
      | _ => none
    | 56 => kn (nx, lo, vI ci :: st, h)
    | 57 => match st with
      | .inr (.inr (k, r)) :: st => bif Nat.beq k 40 then kn (nx, lo, vR 41 r :: st, h) else none
      | _ => none
    | 58 => match st with
      | .inr (.inr (k, _)) :: st => bif Nat.beq k 40 then kn (nx, lo, vI 0 :: st, h) else none
      | _ => none
    | _ => kn (nx, lo, vR 40 a :: st, h)
def o_op (e : En) (lo : Lo) (st : List AV) (h : Hp) : Option Rs :=
  bif Nat.blt e.1 29 then (bif Nat.blt e.1 9 then o_ld kn e lo st h else bif Nat.blt e.1 18 then o_ar kn e lo st h else o_cv kn e lo st h)
  else bif Nat.blt e.1 47 then (bif Nat.blt e.1 36 then o_fd kn e lo st h else bif Nat.blt e.1 42 then o_al kn e lo st h else o_as kn e lo st h)
  else bif Nat.blt e.1 50 then o_nw kn e lo st h else bif Nat.blt e.1 53 then o_cl kn kc e lo st h else bif Nat.blt e.1 60 then o_rt kn e lo st h else none
end Machine
/-- a method's text: its instructions by their pc; which locals are dead at which pc -/
abbrev Tx : Type := List (Nat × En) × List (Nat × List Nat)
def lk {α : Type} : List (Nat × α) → Nat → Option α
  | [], _ => none
  | (k, x) :: l, p => bif Nat.beq k p then some x else lk l p
/-- what is dead at a place is forgotten there -/
def kil (t : Tx) (S : St) : St := match lk t.2 S.1 with
  | some ks => (S.1, lkill S.2.1 ks, S.2.2)
  | none => S
def run (kc : Nat → List AV → Hp → Option Rs) (t : Tx) : Nat → St → Option Rs
  | 0, _ => none
  | n + 1, S => match lk t.1 S.1 with
    | some e => o_op (fun S' => run kc t n (kil t S')) kc e S.2.1 S.2.2.1 S.2.2.2
    | none => none
noncomputable def evs (kc : Nat → List AV → Hp → Option Rs) (t : Tx) (S : St) : Option Rs :=
  @dite _ (∃ n, (run kc t n S).isSome = true) (Classical.propDecidable _) (fun h => run kc t (Classical.choose h) S) (fun _ => none)
/-- a way of going on: it ends by itself, or by one that it goes on to -/
def Us (F : (St → Option Rs) → Option Rs) : Prop := ∀ kn r, F kn = some r → (∃ S, kn S = some r ∧ ∀ kn', kn' S = some r → F kn' = some r) ∨ ∀ kn', F kn' = some r
theorem Us.k (S : St) : Us (fun kn => kn S) := fun _ _ h => Or.inl ⟨S, h, fun _ h => h⟩
theorem Us.n : Us (fun _ => none) := fun _ _ h => by cases h
theorem Us.s (o : Option Rs) : Us (fun _ => o) := fun _ _ h => Or.inr fun _ => h
theorem Us.i {c : Prop} [Decidable c] {F G : (St → Option Rs) → Option Rs} (hF : Us F) (hG : Us G) : Us (fun kn => if c then F kn else G kn) := by
  by_cases h : c
  · simpa only [if_pos h] using hF
  · simpa only [if_neg h] using hG
theorem Us.c {c : Bool} {F G : (St → Option Rs) → Option Rs} (hF : Us F) (hG : Us G) : Us (fun kn => bif c then F kn else G kn) := by
  cases c
  · exact hG
  · exact hF
theorem Us.cn {a : Nat} {x y : Int32} {F G : (St → Option Rs) → Option Rs} (hF : Us F) (hG : Us G) : Us (fun kn => cnd a x y (F kn) (G kn)) := by
  unfold cnd
  split
  · exact hF.i hG
  · exact hG.i hF
  · exact hF.i hG
  · exact hG.i hF
  · exact hF.i hG
  · exact hG.i hF
theorem Us.sw {x : Int32} {F : Nat → (St → Option Rs) → Option Rs} {G : (St → Option Rs) → Option Rs} (hF : ∀ t, Us (F t)) (hG : Us G) : ∀ (tg : List Nat) (lo : Int32), Us (fun kn => swt x lo tg (fun t => F t kn) (G kn))
  | [], _ => hG
  | t :: ts, lo => (hF t).i (Us.sw hF hG ts (lo + 1))
theorem Us.r {o : Option Nat} {F : Nat → (St → Option Rs) → Option Rs} (hF : ∀ x, Us (F x)) : Us (fun kn => bR o (fun x => F x kn)) := by
  cases o with
  | none => exact Us.n
  | some x => exact hF x
theorem Us.bi {o : Option Rs} {F : Int32 → Hp → (St → Option Rs) → Option Rs} (hF : ∀ x h, Us (F x h)) : Us (fun kn => bI o (fun x h => F x h kn)) := by
  unfold bI
  split
  · exact hF _ _
  · exact Us.n
theorem Us.bl {o : Option Rs} {F : Int64 → Hp → (St → Option Rs) → Option Rs} (hF : ∀ x h, Us (F x h)) : Us (fun kn => bL o (fun x h => F x h kn)) := by
  unfold bL
  split
  · exact hF _ _
  · exact Us.n
theorem Us.bv {o : Option Rs} {F : Hp → (St → Option Rs) → Option Rs} (hF : ∀ h, Us (F h)) : Us (fun kn => bV o (fun h => F h kn)) := by
  unfold bV
  split
  · exact hF _
  · exact Us.n
theorem us_ld (e : En) (lo : Lo) (st : List AV) (h : Hp) : Us (fun kn => o_ld kn e lo st h) := by
  obtain ⟨op, nx, a, b, c, ci, cl, tg⟩ := e
  simp only [o_ld]
  (repeat' split) <;> (repeat' first | exact Us.n | exact Us.k _ | exact Us.s _ | refine Us.cn ?_ ?_ | exact Us.sw (fun _ => Us.k _) (Us.k _) _ _ | refine Us.c ?_ ?_ | refine Us.i ?_ ?_ | refine Us.r fun _ => ?_ | refine Us.bv fun _ => ?_ | refine Us.bi fun _ _ => ?_ | refine Us.bl fun _ _ => ?_)
theorem us_ar (e : En) (lo : Lo) (st : List AV) (h : Hp) : Us (fun kn => o_ar kn e lo st h) := by
  obtain ⟨op, nx, a, b, c, ci, cl, tg⟩ := e
  simp only [o_ar]
  (repeat' split) <;> (repeat' first | exact Us.n | exact Us.k _ | exact Us.s _ | refine Us.cn ?_ ?_ | exact Us.sw (fun _ => Us.k _) (Us.k _) _ _ | refine Us.c ?_ ?_ | refine Us.i ?_ ?_ | refine Us.r fun _ => ?_ | refine Us.bv fun _ => ?_ | refine Us.bi fun _ _ => ?_ | refine Us.bl fun _ _ => ?_)
theorem us_cv (e : En) (lo : Lo) (st : List AV) (h : Hp) : Us (fun kn => o_cv kn e lo st h) := by
  obtain ⟨op, nx, a, b, c, ci, cl, tg⟩ := e
  simp only [o_cv]
  (repeat' split) <;> (repeat' first | exact Us.n | exact Us.k _ | exact Us.s _ | refine Us.cn ?_ ?_ | exact Us.sw (fun _ => Us.k _) (Us.k _) _ _ | refine Us.c ?_ ?_ | refine Us.i ?_ ?_ | refine Us.r fun _ => ?_ | refine Us.bv fun _ => ?_ | refine Us.bi fun _ _ => ?_ | refine Us.bl fun _ _ => ?_)
theorem us_fd (e : En) (lo : Lo) (st : List AV) (h : Hp) : Us (fun kn => o_fd kn e lo st h) := by
  obtain ⟨op, nx, a, b, c, ci, cl, tg⟩ := e
  simp only [o_fd]
  (repeat' split) <;> (repeat' first | exact Us.n | exact Us.k _ | exact Us.s _ | refine Us.cn ?_ ?_ | exact Us.sw (fun _ => Us.k _) (Us.k _) _ _ | refine Us.c ?_ ?_ | refine Us.i ?_ ?_ | refine Us.r fun _ => ?_ | refine Us.bv fun _ => ?_ | refine Us.bi fun _ _ => ?_ | refine Us.bl fun _ _ => ?_)
theorem us_al (e : En) (lo : Lo) (st : List AV) (h : Hp) : Us (fun kn => o_al kn e lo st h) := by
  obtain ⟨op, nx, a, b, c, ci, cl, tg⟩ := e
  simp only [o_al]
  (repeat' split) <;> (repeat' first | exact Us.n | exact Us.k _ | exact Us.s _ | refine Us.cn ?_ ?_ | exact Us.sw (fun _ => Us.k _) (Us.k _) _ _ | refine Us.c ?_ ?_ | refine Us.i ?_ ?_ | refine Us.r fun _ => ?_ | refine Us.bv fun _ => ?_ | refine Us.bi fun _ _ => ?_ | refine Us.bl fun _ _ => ?_)
theorem us_as (e : En) (lo : Lo) (st : List AV) (h : Hp) : Us (fun kn => o_as kn e lo st h) := by
  obtain ⟨op, nx, a, b, c, ci, cl, tg⟩ := e
  simp only [o_as]
  (repeat' split) <;> (repeat' first | exact Us.n | exact Us.k _ | exact Us.s _ | refine Us.cn ?_ ?_ | exact Us.sw (fun _ => Us.k _) (Us.k _) _ _ | refine Us.c ?_ ?_ | refine Us.i ?_ ?_ | refine Us.r fun _ => ?_ | refine Us.bv fun _ => ?_ | refine Us.bi fun _ _ => ?_ | refine Us.bl fun _ _ => ?_)
theorem us_nw (e : En) (lo : Lo) (st : List AV) (h : Hp) : Us (fun kn => o_nw kn e lo st h) := by
  obtain ⟨op, nx, a, b, c, ci, cl, tg⟩ := e
  simp only [o_nw]
  (repeat' split) <;> (repeat' first | exact Us.n | exact Us.k _ | exact Us.s _ | refine Us.cn ?_ ?_ | exact Us.sw (fun _ => Us.k _) (Us.k _) _ _ | refine Us.c ?_ ?_ | refine Us.i ?_ ?_ | refine Us.r fun _ => ?_ | refine Us.bv fun _ => ?_ | refine Us.bi fun _ _ => ?_ | refine Us.bl fun _ _ => ?_)
theorem us_cl (kc : Nat → List AV → Hp → Option Rs) (e : En) (lo : Lo) (st : List AV) (h : Hp) : Us (fun kn => o_cl kn kc e lo st h) := by
  obtain ⟨op, nx, a, b, c, ci, cl, tg⟩ := e
  simp only [o_cl]
  (repeat' split) <;> (repeat' first | exact Us.n | exact Us.k _ | exact Us.s _ | refine Us.cn ?_ ?_ | exact Us.sw (fun _ => Us.k _) (Us.k _) _ _ | refine Us.c ?_ ?_ | refine Us.i ?_ ?_ | refine Us.r fun _ => ?_ | refine Us.bv fun _ => ?_ | refine Us.bi fun _ _ => ?_ | refine Us.bl fun _ _ => ?_)
theorem us_rt (e : En) (lo : Lo) (st : List AV) (h : Hp) : Us (fun kn => o_rt kn e lo st h) := by
  obtain ⟨op, nx, a, b, c, ci, cl, tg⟩ := e
  simp only [o_rt]
  (repeat' split) <;> (repeat' first | exact Us.n | exact Us.k _ | exact Us.s _ | refine Us.cn ?_ ?_ | exact Us.sw (fun _ => Us.k _) (Us.k _) _ _ | refine Us.c ?_ ?_ | refine Us.i ?_ ?_ | refine Us.r fun _ => ?_ | refine Us.bv fun _ => ?_ | refine Us.bi fun _ _ => ?_ | refine Us.bl fun _ _ => ?_)
theorem us_op (kc : Nat → List AV → Hp → Option Rs) (e : En) (lo : Lo) (st : List AV) (h : Hp) : Us (fun kn => o_op kn kc e lo st h) := by
  unfold o_op
  exact (((us_ld e lo st h).c ((us_ar e lo st h).c (us_cv e lo st h)))).c (((us_fd e lo st h).c ((us_al e lo st h).c (us_as e lo st h))).c ((us_nw e lo st h).c ((us_cl kc e lo st h).c ((us_rt e lo st h).c Us.n))))
theorem run_succ {kc : Nat → List AV → Hp → Option Rs} {t : Tx} : ∀ {n : Nat} {S : St} {r : Rs}, run kc t n S = some r → run kc t (n + 1) S = some r := by
  intro n
  induction n with
  | zero => intro S r h; cases h
  | succ n ih =>
    intro S r h
    rw [run] at h ⊢
    split at h
    · rcases us_op kc _ _ _ _ _ _ h with ⟨S', h1, h2⟩ | h1
      · exact h2 _ (ih h1)
      · exact h1 _
    · cases h
theorem run_mono {kc : Nat → List AV → Hp → Option Rs} {t : Tx} {n m : Nat} {S : St} {r : Rs} (hnm : n ≤ m) (h : run kc t n S = some r) : run kc t m S = some r := by
  induction hnm with
  | refl => exact h
  | step _ ih => exact run_succ ih
theorem evs_iff {kc : Nat → List AV → Hp → Option Rs} {t : Tx} {S : St} {r : Rs} : evs kc t S = some r ↔ ∃ n, run kc t n S = some r := by
  unfold evs
  by_cases h : ∃ n, (run kc t n S).isSome = true
  · simp only [dif_pos h]
    constructor
    · intro q; exact ⟨_, q⟩
    · rintro ⟨n, hn⟩
      obtain ⟨x, hx⟩ := Option.isSome_iff_exists.mp (Classical.choose_spec h)
      rw [hx]
      rcases Nat.le_total n (Classical.choose h) with q | q
      · rw [← hx, run_mono q hn]
      · rw [← run_mono q hx, hn]
  · simp only [dif_neg h]
    constructor
    · intro q; cases q
    · rintro ⟨n, hn⟩
      exact absurd ⟨n, by rw [hn]; rfl⟩ h
theorem opt_ext {α : Type} {a b : Option α} (h : ∀ r, a = some r ↔ b = some r) : a = b := by
  cases a with
  | none => cases b with
    | none => rfl
    | some y => exact absurd ((h y).mpr rfl) (by simp)
  | some x => exact ((h x).mp rfl).symm
/-- one step of the limit -/
theorem evs_step {kc : Nat → List AV → Hp → Option Rs} {t : Tx} (S : St) : evs kc t S = match lk t.1 S.1 with
    | some e => o_op (fun S' => evs kc t (kil t S')) kc e S.2.1 S.2.2.1 S.2.2.2
    | none => none := by
  refine opt_ext fun r => ?_
  rw [evs_iff]
  cases he : lk t.1 S.1 with
  | none =>
    simp only
    constructor
    · rintro ⟨n, hn⟩
      cases n with
      | zero => cases hn
      | succ n => rw [run, he] at hn; cases hn
    · intro h; cases h
  | some e =>
    simp only
    constructor
    · rintro ⟨n, hn⟩
      cases n with
      | zero => cases hn
      | succ n =>
        rw [run, he] at hn
        rcases us_op kc _ _ _ _ _ _ hn with ⟨S', h1, h2⟩ | h1
        · exact h2 _ (evs_iff.mpr ⟨n, h1⟩)
        · exact h1 _
    · intro h
      rcases us_op kc _ _ _ _ _ _ h with ⟨S', h1, h2⟩ | h1
      · obtain ⟨n, hn⟩ := evs_iff.mp h1
        exact ⟨n + 1, by rw [run, he]; exact h2 _ hn⟩
      · exact ⟨1, by rw [run, he]; exact h1 _⟩
def elm (p : Nat) : List Nat → Bool
  | [] => false
  | q :: qs => bif Nat.beq q p then true else elm p qs
/-- some steps at once, up to the places 'stops' -/
noncomputable def xpd (kc : Nat → List AV → Hp → Option Rs) (t : Tx) (stops : List Nat) : Nat → St → Option Rs
  | 0, S => evs kc t S
  | n + 1, S => match lk t.1 S.1 with
    | some e => o_op (fun S' => bif elm (kil t S').1 stops then evs kc t (kil t S') else xpd kc t stops n (kil t S')) kc e S.2.1 S.2.2.1 S.2.2.2
    | none => none
theorem evs_xpd (kc : Nat → List AV → Hp → Option Rs) (t : Tx) (stops : List Nat) : ∀ (n : Nat) (S : St), evs kc t S = xpd kc t stops n S := by
  intro n
  induction n with
  | zero => intro S; rfl
  | succ n ih =>
    intro S
    rw [evs_step, xpd]
    have : (fun S' => evs kc t (kil t S')) = (fun S' => bif elm (kil t S').1 stops then evs kc t (kil t S') else xpd kc t stops n (kil t S')) := by
      funext S'
      cases elm (kil t S').1 stops
      · exact ih _
      · rfl
    rw [this]
/-- a method's start -/
def ael : List AV → Lo
  | [] => []
  | v :: vs => match v with
    | .inr (.inl x) => some (vL x) :: none :: ael vs
    | v => some v :: ael vs
def pad : Lo → Nat → Lo
  | l, 0 => l
  | l, n + 1 => pad (l ++ [none]) n
end
