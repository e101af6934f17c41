-- ===== PART A: goes FIRST, ahead of the names: the tables' words, and 'selects' of the private methods out of them =====
/-- a private method of a class that the tables say can be made, by its rows of tables_1 -/
def lw_okq (q : MethodName × Nat) : Prop := (q.1.cls ≠ "java/lang/invoke/MethodHandle" ∧ q.1.cls ≠ "java/lang/invoke/VarHandle") ∧ Cond.instantiable q.1.cls q.2 ∈ tables_1 ∧ Cond.privateMethod q.1 ∈ tables_1 ∧ Cond.instanceMethod q.1 ∈ tables_1
theorem lw_p0 : lw_okq (⟨"MangleTown$Town", "forgetAll", "()V"⟩, 14) := ⟨⟨by decide +kernel, by decide +kernel⟩, List.mem_of_getElem? (i := 95) (by decide +kernel), List.mem_of_getElem? (i := 122) (by decide +kernel), List.mem_of_getElem? (i := 123) (by decide +kernel)⟩
theorem lw_p1 : lw_okq (⟨"MangleTown", "feedBytes", "(J)V"⟩, 16) := ⟨⟨by decide +kernel, by decide +kernel⟩, List.mem_of_getElem? (i := 28) (by decide +kernel), List.mem_of_getElem? (i := 456) (by decide +kernel), List.mem_of_getElem? (i := 457) (by decide +kernel)⟩
theorem lw_p2 : lw_okq (⟨"MangleTown$Tape", "readWord", "()V"⟩, 12) := ⟨⟨by decide +kernel, by decide +kernel⟩, List.mem_of_getElem? (i := 36) (by decide +kernel), List.mem_of_getElem? (i := 476) (by decide +kernel), List.mem_of_getElem? (i := 477) (by decide +kernel)⟩
theorem lw_p3 : lw_okq (⟨"MangleTown$Tape", "readNumber", "()V"⟩, 12) := ⟨⟨by decide +kernel, by decide +kernel⟩, List.mem_of_getElem? (i := 36) (by decide +kernel), List.mem_of_getElem? (i := 487) (by decide +kernel), List.mem_of_getElem? (i := 488) (by decide +kernel)⟩
theorem lw_p4 : lw_okq (⟨"MangleTown$Town", "readLine", "(LMangleTown$Tape;)Z"⟩, 14) := ⟨⟨by decide +kernel, by decide +kernel⟩, List.mem_of_getElem? (i := 95) (by decide +kernel), List.mem_of_getElem? (i := 582) (by decide +kernel), List.mem_of_getElem? (i := 583) (by decide +kernel)⟩
theorem lw_p5 : lw_okq (⟨"MangleTown$Town", "readHouse", "(LMangleTown$Tape;)Z"⟩, 14) := ⟨⟨by decide +kernel, by decide +kernel⟩, List.mem_of_getElem? (i := 95) (by decide +kernel), List.mem_of_getElem? (i := 594) (by decide +kernel), List.mem_of_getElem? (i := 595) (by decide +kernel)⟩
theorem lw_p6 : lw_okq (⟨"MangleTown$Town", "readMeasure", "(LMangleTown$Tape;LMangleTown$Word;[III)Z"⟩, 14) := ⟨⟨by decide +kernel, by decide +kernel⟩, List.mem_of_getElem? (i := 95) (by decide +kernel), List.mem_of_getElem? (i := 616) (by decide +kernel), List.mem_of_getElem? (i := 617) (by decide +kernel)⟩
theorem lw_p7 : lw_okq (⟨"MangleTown$Town", "readShuns", "(LMangleTown$Tape;)Z"⟩, 14) := ⟨⟨by decide +kernel, by decide +kernel⟩, List.mem_of_getElem? (i := 95) (by decide +kernel), List.mem_of_getElem? (i := 633) (by decide +kernel), List.mem_of_getElem? (i := 634) (by decide +kernel)⟩
theorem lw_p8 : lw_okq (⟨"MangleTown$Town", "takeOnce", "(LMangleTown$Tape;I)Z"⟩, 14) := ⟨⟨by decide +kernel, by decide +kernel⟩, List.mem_of_getElem? (i := 95) (by decide +kernel), List.mem_of_getElem? (i := 645) (by decide +kernel), List.mem_of_getElem? (i := 646) (by decide +kernel)⟩
theorem lw_p9 : lw_okq (⟨"MangleTown$Town", "readGap", "(LMangleTown$Tape;)Z"⟩, 14) := ⟨⟨by decide +kernel, by decide +kernel⟩, List.mem_of_getElem? (i := 95) (by decide +kernel), List.mem_of_getElem? (i := 649) (by decide +kernel), List.mem_of_getElem? (i := 650) (by decide +kernel)⟩
theorem lw_p10 : lw_okq (⟨"MangleTown$Town", "readRains", "(LMangleTown$Tape;)Z"⟩, 14) := ⟨⟨by decide +kernel, by decide +kernel⟩, List.mem_of_getElem? (i := 95) (by decide +kernel), List.mem_of_getElem? (i := 653) (by decide +kernel), List.mem_of_getElem? (i := 654) (by decide +kernel)⟩
theorem lw_p11 : lw_okq (⟨"MangleTown$Town", "readPrice", "(LMangleTown$Tape;)Z"⟩, 14) := ⟨⟨by decide +kernel, by decide +kernel⟩, List.mem_of_getElem? (i := 95) (by decide +kernel), List.mem_of_getElem? (i := 657) (by decide +kernel), List.mem_of_getElem? (i := 658) (by decide +kernel)⟩
theorem lw_p12 : lw_okq (⟨"MangleTown$Law", "readE", "(LMangleTown$Tape;I)Z"⟩, 4) := ⟨⟨by decide +kernel, by decide +kernel⟩, List.mem_of_getElem? (i := 101) (by decide +kernel), List.mem_of_getElem? (i := 665) (by decide +kernel), List.mem_of_getElem? (i := 666) (by decide +kernel)⟩
theorem lw_p13 : lw_okq (⟨"MangleTown$Law", "readTest", "(LMangleTown$Tape;I)Z"⟩, 4) := ⟨⟨by decide +kernel, by decide +kernel⟩, List.mem_of_getElem? (i := 101) (by decide +kernel), List.mem_of_getElem? (i := 669) (by decide +kernel), List.mem_of_getElem? (i := 670) (by decide +kernel)⟩
theorem lw_p14 : lw_okq (⟨"MangleTown$Law", "readSum", "(LMangleTown$Tape;I)Z"⟩, 4) := ⟨⟨by decide +kernel, by decide +kernel⟩, List.mem_of_getElem? (i := 101) (by decide +kernel), List.mem_of_getElem? (i := 673) (by decide +kernel), List.mem_of_getElem? (i := 674) (by decide +kernel)⟩
theorem lw_p15 : lw_okq (⟨"MangleTown$Law", "readProduct", "(LMangleTown$Tape;I)Z"⟩, 4) := ⟨⟨by decide +kernel, by decide +kernel⟩, List.mem_of_getElem? (i := 101) (by decide +kernel), List.mem_of_getElem? (i := 677) (by decide +kernel), List.mem_of_getElem? (i := 678) (by decide +kernel)⟩
def lw_privs_1 : List (MethodName × Nat) := [(⟨"MangleTown$Town", "forgetAll", "()V"⟩, 14), (⟨"MangleTown", "feedBytes", "(J)V"⟩, 16), (⟨"MangleTown$Tape", "readWord", "()V"⟩, 12), (⟨"MangleTown$Tape", "readNumber", "()V"⟩, 12), (⟨"MangleTown$Town", "readLine", "(LMangleTown$Tape;)Z"⟩, 14), (⟨"MangleTown$Town", "readHouse", "(LMangleTown$Tape;)Z"⟩, 14), (⟨"MangleTown$Town", "readMeasure", "(LMangleTown$Tape;LMangleTown$Word;[III)Z"⟩, 14), (⟨"MangleTown$Town", "readShuns", "(LMangleTown$Tape;)Z"⟩, 14), (⟨"MangleTown$Town", "takeOnce", "(LMangleTown$Tape;I)Z"⟩, 14), (⟨"MangleTown$Town", "readGap", "(LMangleTown$Tape;)Z"⟩, 14), (⟨"MangleTown$Town", "readRains", "(LMangleTown$Tape;)Z"⟩, 14), (⟨"MangleTown$Town", "readPrice", "(LMangleTown$Tape;)Z"⟩, 14), (⟨"MangleTown$Law", "readE", "(LMangleTown$Tape;I)Z"⟩, 4), (⟨"MangleTown$Law", "readTest", "(LMangleTown$Tape;I)Z"⟩, 4), (⟨"MangleTown$Law", "readSum", "(LMangleTown$Tape;I)Z"⟩, 4), (⟨"MangleTown$Law", "readProduct", "(LMangleTown$Tape;I)Z"⟩, 4)]
theorem lw_r1 : ∀ q ∈ lw_privs_1, lw_okq q := List.forall_mem_cons.mpr ⟨lw_p0, List.forall_mem_cons.mpr ⟨lw_p1, List.forall_mem_cons.mpr ⟨lw_p2, List.forall_mem_cons.mpr ⟨lw_p3, List.forall_mem_cons.mpr ⟨lw_p4, List.forall_mem_cons.mpr ⟨lw_p5, List.forall_mem_cons.mpr ⟨lw_p6, List.forall_mem_cons.mpr ⟨lw_p7, List.forall_mem_cons.mpr ⟨lw_p8, List.forall_mem_cons.mpr ⟨lw_p9, List.forall_mem_cons.mpr ⟨lw_p10, List.forall_mem_cons.mpr ⟨lw_p11, List.forall_mem_cons.mpr ⟨lw_p12, List.forall_mem_cons.mpr ⟨lw_p13, List.forall_mem_cons.mpr ⟨lw_p14, List.forall_mem_cons.mpr ⟨lw_p15, fun _ h => absurd h List.not_mem_nil⟩⟩⟩⟩⟩⟩⟩⟩⟩⟩⟩⟩⟩⟩⟩⟩
theorem lw_p16 : lw_okq (⟨"MangleTown$Law", "readPart", "(LMangleTown$Tape;I)Z"⟩, 4) := ⟨⟨by decide +kernel, by decide +kernel⟩, List.mem_of_getElem? (i := 101) (by decide +kernel), List.mem_of_getElem? (i := 681) (by decide +kernel), List.mem_of_getElem? (i := 682) (by decide +kernel)⟩
theorem lw_p17 : lw_okq (⟨"MangleTown$Law", "factCode", "(LMangleTown$Word;)I"⟩, 4) := ⟨⟨by decide +kernel, by decide +kernel⟩, List.mem_of_getElem? (i := 101) (by decide +kernel), List.mem_of_getElem? (i := 685) (by decide +kernel), List.mem_of_getElem? (i := 686) (by decide +kernel)⟩
theorem lw_p18 : lw_okq (⟨"MangleTown$Law", "add", "(I)V"⟩, 4) := ⟨⟨by decide +kernel, by decide +kernel⟩, List.mem_of_getElem? (i := 101) (by decide +kernel), List.mem_of_getElem? (i := 704) (by decide +kernel), List.mem_of_getElem? (i := 705) (by decide +kernel)⟩
theorem lw_p19 : lw_okq (⟨"MangleTown$Years", "readLine", "(LMangleTown$Tape;LMangleTown$Town;)Z"⟩, 4) := ⟨⟨by decide +kernel, by decide +kernel⟩, List.mem_of_getElem? (i := 186) (by decide +kernel), List.mem_of_getElem? (i := 721) (by decide +kernel), List.mem_of_getElem? (i := 722) (by decide +kernel)⟩
theorem lw_p20 : lw_okq (⟨"MangleTown$Years", "readHouse", "(LMangleTown$Tape;LMangleTown$Town;)Z"⟩, 4) := ⟨⟨by decide +kernel, by decide +kernel⟩, List.mem_of_getElem? (i := 186) (by decide +kernel), List.mem_of_getElem? (i := 732) (by decide +kernel), List.mem_of_getElem? (i := 733) (by decide +kernel)⟩
theorem lw_p21 : lw_okq (⟨"MangleTown$Years", "readNumber", "(LMangleTown$Tape;II)Z"⟩, 4) := ⟨⟨by decide +kernel, by decide +kernel⟩, List.mem_of_getElem? (i := 186) (by decide +kernel), List.mem_of_getElem? (i := 737) (by decide +kernel), List.mem_of_getElem? (i := 738) (by decide +kernel)⟩
theorem lw_p22 : lw_okq (⟨"MangleTown", "isHouse", "(I)Z"⟩, 16) := ⟨⟨by decide +kernel, by decide +kernel⟩, List.mem_of_getElem? (i := 28) (by decide +kernel), List.mem_of_getElem? (i := 752) (by decide +kernel), List.mem_of_getElem? (i := 753) (by decide +kernel)⟩
theorem lw_p23 : lw_okq (⟨"MangleTown", "isGoing", "(I)Z"⟩, 16) := ⟨⟨by decide +kernel, by decide +kernel⟩, List.mem_of_getElem? (i := 28) (by decide +kernel), List.mem_of_getElem? (i := 772) (by decide +kernel), List.mem_of_getElem? (i := 773) (by decide +kernel)⟩
theorem lw_p24 : lw_okq (⟨"MangleTown", "remember", "()V"⟩, 16) := ⟨⟨by decide +kernel, by decide +kernel⟩, List.mem_of_getElem? (i := 28) (by decide +kernel), List.mem_of_getElem? (i := 823) (by decide +kernel), List.mem_of_getElem? (i := 824) (by decide +kernel)⟩
theorem lw_p25 : lw_okq (⟨"MangleTown$Mangle", "pressOne", "(LMangleTown$Town;LMangleTown$State;II)V"⟩, 7) := ⟨⟨by decide +kernel, by decide +kernel⟩, List.mem_of_getElem? (i := 299) (by decide +kernel), List.mem_of_getElem? (i := 851) (by decide +kernel), List.mem_of_getElem? (i := 852) (by decide +kernel)⟩
theorem lw_p26 : lw_okq (⟨"MangleTown$Mangle", "follow", "(LMangleTown$Town;LMangleTown$Years;ILMangleTown$State;)Z"⟩, 7) := ⟨⟨by decide +kernel, by decide +kernel⟩, List.mem_of_getElem? (i := 299) (by decide +kernel), List.mem_of_getElem? (i := 904) (by decide +kernel), List.mem_of_getElem? (i := 905) (by decide +kernel)⟩
theorem lw_p27 : lw_okq (⟨"MangleTown$Rows", "findLasts", "(LMangleTown$Town;)V"⟩, 7) := ⟨⟨by decide +kernel, by decide +kernel⟩, List.mem_of_getElem? (i := 333) (by decide +kernel), List.mem_of_getElem? (i := 925) (by decide +kernel), List.mem_of_getElem? (i := 926) (by decide +kernel)⟩
theorem lw_p28 : lw_okq (⟨"MangleTown$Rows", "findBlots", "(LMangleTown$Town;LMangleTown$State;)V"⟩, 7) := ⟨⟨by decide +kernel, by decide +kernel⟩, List.mem_of_getElem? (i := 333) (by decide +kernel), List.mem_of_getElem? (i := 937) (by decide +kernel), List.mem_of_getElem? (i := 938) (by decide +kernel)⟩
theorem lw_p29 : lw_okq (⟨"MangleTown$Rows", "findRest", "(LMangleTown$Town;IIZ)V"⟩, 7) := ⟨⟨by decide +kernel, by decide +kernel⟩, List.mem_of_getElem? (i := 333) (by decide +kernel), List.mem_of_getElem? (i := 946) (by decide +kernel), List.mem_of_getElem? (i := 947) (by decide +kernel)⟩
theorem lw_p30 : lw_okq (⟨"MangleTown$Rows", "restBy", "(LMangleTown$Town;IIIZ)I"⟩, 7) := ⟨⟨by decide +kernel, by decide +kernel⟩, List.mem_of_getElem? (i := 333) (by decide +kernel), List.mem_of_getElem? (i := 950) (by decide +kernel), List.mem_of_getElem? (i := 951) (by decide +kernel)⟩
theorem lw_p31 : lw_okq (⟨"MangleTown$Rows", "layBestRow", "(LMangleTown$Town;IZ)V"⟩, 7) := ⟨⟨by decide +kernel, by decide +kernel⟩, List.mem_of_getElem? (i := 333) (by decide +kernel), List.mem_of_getElem? (i := 955) (by decide +kernel), List.mem_of_getElem? (i := 956) (by decide +kernel)⟩
def lw_privs_2 : List (MethodName × Nat) := [(⟨"MangleTown$Law", "readPart", "(LMangleTown$Tape;I)Z"⟩, 4), (⟨"MangleTown$Law", "factCode", "(LMangleTown$Word;)I"⟩, 4), (⟨"MangleTown$Law", "add", "(I)V"⟩, 4), (⟨"MangleTown$Years", "readLine", "(LMangleTown$Tape;LMangleTown$Town;)Z"⟩, 4), (⟨"MangleTown$Years", "readHouse", "(LMangleTown$Tape;LMangleTown$Town;)Z"⟩, 4), (⟨"MangleTown$Years", "readNumber", "(LMangleTown$Tape;II)Z"⟩, 4), (⟨"MangleTown", "isHouse", "(I)Z"⟩, 16), (⟨"MangleTown", "isGoing", "(I)Z"⟩, 16), (⟨"MangleTown", "remember", "()V"⟩, 16), (⟨"MangleTown$Mangle", "pressOne", "(LMangleTown$Town;LMangleTown$State;II)V"⟩, 7), (⟨"MangleTown$Mangle", "follow", "(LMangleTown$Town;LMangleTown$Years;ILMangleTown$State;)Z"⟩, 7), (⟨"MangleTown$Rows", "findLasts", "(LMangleTown$Town;)V"⟩, 7), (⟨"MangleTown$Rows", "findBlots", "(LMangleTown$Town;LMangleTown$State;)V"⟩, 7), (⟨"MangleTown$Rows", "findRest", "(LMangleTown$Town;IIZ)V"⟩, 7), (⟨"MangleTown$Rows", "restBy", "(LMangleTown$Town;IIIZ)I"⟩, 7), (⟨"MangleTown$Rows", "layBestRow", "(LMangleTown$Town;IZ)V"⟩, 7)]
theorem lw_r2 : ∀ q ∈ lw_privs_2, lw_okq q := List.forall_mem_cons.mpr ⟨lw_p16, List.forall_mem_cons.mpr ⟨lw_p17, List.forall_mem_cons.mpr ⟨lw_p18, List.forall_mem_cons.mpr ⟨lw_p19, List.forall_mem_cons.mpr ⟨lw_p20, List.forall_mem_cons.mpr ⟨lw_p21, List.forall_mem_cons.mpr ⟨lw_p22, List.forall_mem_cons.mpr ⟨lw_p23, List.forall_mem_cons.mpr ⟨lw_p24, List.forall_mem_cons.mpr ⟨lw_p25, List.forall_mem_cons.mpr ⟨lw_p26, List.forall_mem_cons.mpr ⟨lw_p27, List.forall_mem_cons.mpr ⟨lw_p28, List.forall_mem_cons.mpr ⟨lw_p29, List.forall_mem_cons.mpr ⟨lw_p30, List.forall_mem_cons.mpr ⟨lw_p31, fun _ h => absurd h List.not_mem_nil⟩⟩⟩⟩⟩⟩⟩⟩⟩⟩⟩⟩⟩⟩⟩⟩
theorem lw_p32 : lw_okq (⟨"MangleTown$Rows", "firstOfLeast", "(LMangleTown$Town;IIIZ)I"⟩, 7) := ⟨⟨by decide +kernel, by decide +kernel⟩, List.mem_of_getElem? (i := 333) (by decide +kernel), List.mem_of_getElem? (i := 959) (by decide +kernel), List.mem_of_getElem? (i := 960) (by decide +kernel)⟩
theorem lw_p33 : lw_okq (⟨"MangleTown$Secrets", "sumOf", "(II)I"⟩, 5) := ⟨⟨by decide +kernel, by decide +kernel⟩, List.mem_of_getElem? (i := 363) (by decide +kernel), List.mem_of_getElem? (i := 1007) (by decide +kernel), List.mem_of_getElem? (i := 1008) (by decide +kernel)⟩
theorem lw_p34 : lw_okq (⟨"MangleTown$Secrets", "keep", "(II)V"⟩, 5) := ⟨⟨by decide +kernel, by decide +kernel⟩, List.mem_of_getElem? (i := 363) (by decide +kernel), List.mem_of_getElem? (i := 1011) (by decide +kernel), List.mem_of_getElem? (i := 1012) (by decide +kernel)⟩
theorem lw_p35 : lw_okq (⟨"MangleTown$Rows", "countWays", "(I)I"⟩, 7) := ⟨⟨by decide +kernel, by decide +kernel⟩, List.mem_of_getElem? (i := 333) (by decide +kernel), List.mem_of_getElem? (i := 1040) (by decide +kernel), List.mem_of_getElem? (i := 1041) (by decide +kernel)⟩
theorem lw_p36 : lw_okq (⟨"MangleTown$Rows", "firstFree", "(II)I"⟩, 7) := ⟨⟨by decide +kernel, by decide +kernel⟩, List.mem_of_getElem? (i := 333) (by decide +kernel), List.mem_of_getElem? (i := 1052) (by decide +kernel), List.mem_of_getElem? (i := 1053) (by decide +kernel)⟩
theorem lw_p37 : lw_okq (⟨"MangleTown$Rows", "greaterPart", "(IIII)I"⟩, 7) := ⟨⟨by decide +kernel, by decide +kernel⟩, List.mem_of_getElem? (i := 333) (by decide +kernel), List.mem_of_getElem? (i := 1065) (by decide +kernel), List.mem_of_getElem? (i := 1066) (by decide +kernel)⟩
theorem lw_p38 : lw_okq (⟨"MangleTown", "goingAsThick", "(I)I"⟩, 16) := ⟨⟨by decide +kernel, by decide +kernel⟩, List.mem_of_getElem? (i := 28) (by decide +kernel), List.mem_of_getElem? (i := 1074) (by decide +kernel), List.mem_of_getElem? (i := 1075) (by decide +kernel)⟩
theorem lw_p39 : lw_okq (⟨"MangleTown$Mangle", "shuffle", "(LMangleTown$Town;LMangleTown$State;)V"⟩, 7) := ⟨⟨by decide +kernel, by decide +kernel⟩, List.mem_of_getElem? (i := 299) (by decide +kernel), List.mem_of_getElem? (i := 1086) (by decide +kernel), List.mem_of_getElem? (i := 1087) (by decide +kernel)⟩
theorem lw_p40 : lw_okq (⟨"MangleTown$Mangle", "drawBelow", "(I)I"⟩, 7) := ⟨⟨by decide +kernel, by decide +kernel⟩, List.mem_of_getElem? (i := 299) (by decide +kernel), List.mem_of_getElem? (i := 1090) (by decide +kernel), List.mem_of_getElem? (i := 1091) (by decide +kernel)⟩
theorem lw_p41 : lw_okq (⟨"MangleTown", "allGoingThickness", "()I"⟩, 16) := ⟨⟨by decide +kernel, by decide +kernel⟩, List.mem_of_getElem? (i := 28) (by decide +kernel), List.mem_of_getElem? (i := 1125) (by decide +kernel), List.mem_of_getElem? (i := 1126) (by decide +kernel)⟩
theorem lw_p42 : lw_okq (⟨"java/lang/Throwable", "fillInStackTrace", "(I)Ljava/lang/Throwable;"⟩, 6) := ⟨⟨by decide +kernel, by decide +kernel⟩, List.mem_of_getElem? (i := 1165) (by decide +kernel), List.mem_of_getElem? (i := 1163) (by decide +kernel), List.mem_of_getElem? (i := 1164) (by decide +kernel)⟩
theorem lw_p43 : lw_okq (⟨"MangleTown", "weighHouses", "()V"⟩, 16) := ⟨⟨by decide +kernel, by decide +kernel⟩, List.mem_of_getElem? (i := 28) (by decide +kernel), List.mem_of_getElem? (i := 1194) (by decide +kernel), List.mem_of_getElem? (i := 1195) (by decide +kernel)⟩
theorem lw_p44 : lw_okq (⟨"MangleTown", "likeliestFind", "(I)I"⟩, 16) := ⟨⟨by decide +kernel, by decide +kernel⟩, List.mem_of_getElem? (i := 28) (by decide +kernel), List.mem_of_getElem? (i := 1199) (by decide +kernel), List.mem_of_getElem? (i := 1200) (by decide +kernel)⟩
theorem lw_p45 : lw_okq (⟨"MangleTownModel", "fresh", "()V"⟩, 62) := ⟨⟨by decide +kernel, by decide +kernel⟩, List.mem_of_getElem? (i := 1228) (by decide +kernel), List.mem_of_getElem? (i := 1234) (by decide +kernel), List.mem_of_getElem? (i := 1235) (by decide +kernel)⟩
theorem lw_p46 : lw_okq (⟨"MangleTownModel", "readsAll", "()Z"⟩, 62) := ⟨⟨by decide +kernel, by decide +kernel⟩, List.mem_of_getElem? (i := 1228) (by decide +kernel), List.mem_of_getElem? (i := 1438) (by decide +kernel), List.mem_of_getElem? (i := 1439) (by decide +kernel)⟩
theorem lw_p47 : lw_okq (⟨"MangleTownModel", "begins", "()V"⟩, 62) := ⟨⟨by decide +kernel, by decide +kernel⟩, List.mem_of_getElem? (i := 1228) (by decide +kernel), List.mem_of_getElem? (i := 1442) (by decide +kernel), List.mem_of_getElem? (i := 1443) (by decide +kernel)⟩
def lw_privs_3 : List (MethodName × Nat) := [(⟨"MangleTown$Rows", "firstOfLeast", "(LMangleTown$Town;IIIZ)I"⟩, 7), (⟨"MangleTown$Secrets", "sumOf", "(II)I"⟩, 5), (⟨"MangleTown$Secrets", "keep", "(II)V"⟩, 5), (⟨"MangleTown$Rows", "countWays", "(I)I"⟩, 7), (⟨"MangleTown$Rows", "firstFree", "(II)I"⟩, 7), (⟨"MangleTown$Rows", "greaterPart", "(IIII)I"⟩, 7), (⟨"MangleTown", "goingAsThick", "(I)I"⟩, 16), (⟨"MangleTown$Mangle", "shuffle", "(LMangleTown$Town;LMangleTown$State;)V"⟩, 7), (⟨"MangleTown$Mangle", "drawBelow", "(I)I"⟩, 7), (⟨"MangleTown", "allGoingThickness", "()I"⟩, 16), (⟨"java/lang/Throwable", "fillInStackTrace", "(I)Ljava/lang/Throwable;"⟩, 6), (⟨"MangleTown", "weighHouses", "()V"⟩, 16), (⟨"MangleTown", "likeliestFind", "(I)I"⟩, 16), (⟨"MangleTownModel", "fresh", "()V"⟩, 62), (⟨"MangleTownModel", "readsAll", "()Z"⟩, 62), (⟨"MangleTownModel", "begins", "()V"⟩, 62)]
theorem lw_r3 : ∀ q ∈ lw_privs_3, lw_okq q := List.forall_mem_cons.mpr ⟨lw_p32, List.forall_mem_cons.mpr ⟨lw_p33, List.forall_mem_cons.mpr ⟨lw_p34, List.forall_mem_cons.mpr ⟨lw_p35, List.forall_mem_cons.mpr ⟨lw_p36, List.forall_mem_cons.mpr ⟨lw_p37, List.forall_mem_cons.mpr ⟨lw_p38, List.forall_mem_cons.mpr ⟨lw_p39, List.forall_mem_cons.mpr ⟨lw_p40, List.forall_mem_cons.mpr ⟨lw_p41, List.forall_mem_cons.mpr ⟨lw_p42, List.forall_mem_cons.mpr ⟨lw_p43, List.forall_mem_cons.mpr ⟨lw_p44, List.forall_mem_cons.mpr ⟨lw_p45, List.forall_mem_cons.mpr ⟨lw_p46, List.forall_mem_cons.mpr ⟨lw_p47, fun _ h => absurd h List.not_mem_nil⟩⟩⟩⟩⟩⟩⟩⟩⟩⟩⟩⟩⟩⟩⟩⟩
theorem lw_p48 : lw_okq (⟨"MangleTownModel", "nextToken", "()V"⟩, 62) := ⟨⟨by decide +kernel, by decide +kernel⟩, List.mem_of_getElem? (i := 1228) (by decide +kernel), List.mem_of_getElem? (i := 1446) (by decide +kernel), List.mem_of_getElem? (i := 1447) (by decide +kernel)⟩
theorem lw_p49 : lw_okq (⟨"MangleTownModel", "signAt", "(I)I"⟩, 62) := ⟨⟨by decide +kernel, by decide +kernel⟩, List.mem_of_getElem? (i := 1228) (by decide +kernel), List.mem_of_getElem? (i := 1450) (by decide +kernel), List.mem_of_getElem? (i := 1451) (by decide +kernel)⟩
theorem lw_p50 : lw_okq (⟨"MangleTownModel", "isWord", "(J)Z"⟩, 62) := ⟨⟨by decide +kernel, by decide +kernel⟩, List.mem_of_getElem? (i := 1228) (by decide +kernel), List.mem_of_getElem? (i := 1457) (by decide +kernel), List.mem_of_getElem? (i := 1458) (by decide +kernel)⟩
theorem lw_p51 : lw_okq (⟨"MangleTownModel", "readsHouse", "()Z"⟩, 62) := ⟨⟨by decide +kernel, by decide +kernel⟩, List.mem_of_getElem? (i := 1228) (by decide +kernel), List.mem_of_getElem? (i := 1461) (by decide +kernel), List.mem_of_getElem? (i := 1462) (by decide +kernel)⟩
theorem lw_p52 : lw_okq (⟨"MangleTownModel", "fails", "(I)Z"⟩, 62) := ⟨⟨by decide +kernel, by decide +kernel⟩, List.mem_of_getElem? (i := 1228) (by decide +kernel), List.mem_of_getElem? (i := 1465) (by decide +kernel), List.mem_of_getElem? (i := 1466) (by decide +kernel)⟩
theorem lw_p53 : lw_okq (⟨"MangleTownModel", "isKept", "()Z"⟩, 62) := ⟨⟨by decide +kernel, by decide +kernel⟩, List.mem_of_getElem? (i := 1228) (by decide +kernel), List.mem_of_getElem? (i := 1469) (by decide +kernel), List.mem_of_getElem? (i := 1470) (by decide +kernel)⟩
theorem lw_p54 : lw_okq (⟨"MangleTownModel", "houseNamed", "(I)I"⟩, 62) := ⟨⟨by decide +kernel, by decide +kernel⟩, List.mem_of_getElem? (i := 1228) (by decide +kernel), List.mem_of_getElem? (i := 1493) (by decide +kernel), List.mem_of_getElem? (i := 1494) (by decide +kernel)⟩
theorem lw_p55 : lw_okq (⟨"MangleTownModel", "needsBoth", "(JII)Z"⟩, 62) := ⟨⟨by decide +kernel, by decide +kernel⟩, List.mem_of_getElem? (i := 1228) (by decide +kernel), List.mem_of_getElem? (i := 1497) (by decide +kernel), List.mem_of_getElem? (i := 1498) (by decide +kernel)⟩
theorem lw_p56 : lw_okq (⟨"MangleTownModel", "needsNumber", "(II)Z"⟩, 62) := ⟨⟨by decide +kernel, by decide +kernel⟩, List.mem_of_getElem? (i := 1228) (by decide +kernel), List.mem_of_getElem? (i := 1501) (by decide +kernel), List.mem_of_getElem? (i := 1502) (by decide +kernel)⟩
theorem lw_p57 : lw_okq (⟨"MangleTownModel", "closes", "()Z"⟩, 62) := ⟨⟨by decide +kernel, by decide +kernel⟩, List.mem_of_getElem? (i := 1228) (by decide +kernel), List.mem_of_getElem? (i := 1508) (by decide +kernel), List.mem_of_getElem? (i := 1509) (by decide +kernel)⟩
theorem lw_p58 : lw_okq (⟨"MangleTownModel", "isSign", "(I)Z"⟩, 62) := ⟨⟨by decide +kernel, by decide +kernel⟩, List.mem_of_getElem? (i := 1228) (by decide +kernel), List.mem_of_getElem? (i := 1512) (by decide +kernel), List.mem_of_getElem? (i := 1513) (by decide +kernel)⟩
theorem lw_p59 : lw_okq (⟨"MangleTownModel", "readsShuns", "()Z"⟩, 62) := ⟨⟨by decide +kernel, by decide +kernel⟩, List.mem_of_getElem? (i := 1228) (by decide +kernel), List.mem_of_getElem? (i := 1516) (by decide +kernel), List.mem_of_getElem? (i := 1517) (by decide +kernel)⟩
theorem lw_p60 : lw_okq (⟨"MangleTownModel", "needsHouse", "(I)Z"⟩, 62) := ⟨⟨by decide +kernel, by decide +kernel⟩, List.mem_of_getElem? (i := 1228) (by decide +kernel), List.mem_of_getElem? (i := 1520) (by decide +kernel), List.mem_of_getElem? (i := 1521) (by decide +kernel)⟩
theorem lw_p61 : lw_okq (⟨"MangleTownModel", "readsOne", "(III)Z"⟩, 62) := ⟨⟨by decide +kernel, by decide +kernel⟩, List.mem_of_getElem? (i := 1228) (by decide +kernel), List.mem_of_getElem? (i := 1524) (by decide +kernel), List.mem_of_getElem? (i := 1525) (by decide +kernel)⟩
theorem lw_p62 : lw_okq (⟨"MangleTownModel", "isTwice", "(I)Z"⟩, 62) := ⟨⟨by decide +kernel, by decide +kernel⟩, List.mem_of_getElem? (i := 1228) (by decide +kernel), List.mem_of_getElem? (i := 1528) (by decide +kernel), List.mem_of_getElem? (i := 1529) (by decide +kernel)⟩
theorem lw_p63 : lw_okq (⟨"MangleTownModel", "readsRains", "()Z"⟩, 62) := ⟨⟨by decide +kernel, by decide +kernel⟩, List.mem_of_getElem? (i := 1228) (by decide +kernel), List.mem_of_getElem? (i := 1532) (by decide +kernel), List.mem_of_getElem? (i := 1533) (by decide +kernel)⟩
def lw_privs_4 : List (MethodName × Nat) := [(⟨"MangleTownModel", "nextToken", "()V"⟩, 62), (⟨"MangleTownModel", "signAt", "(I)I"⟩, 62), (⟨"MangleTownModel", "isWord", "(J)Z"⟩, 62), (⟨"MangleTownModel", "readsHouse", "()Z"⟩, 62), (⟨"MangleTownModel", "fails", "(I)Z"⟩, 62), (⟨"MangleTownModel", "isKept", "()Z"⟩, 62), (⟨"MangleTownModel", "houseNamed", "(I)I"⟩, 62), (⟨"MangleTownModel", "needsBoth", "(JII)Z"⟩, 62), (⟨"MangleTownModel", "needsNumber", "(II)Z"⟩, 62), (⟨"MangleTownModel", "closes", "()Z"⟩, 62), (⟨"MangleTownModel", "isSign", "(I)Z"⟩, 62), (⟨"MangleTownModel", "readsShuns", "()Z"⟩, 62), (⟨"MangleTownModel", "needsHouse", "(I)Z"⟩, 62), (⟨"MangleTownModel", "readsOne", "(III)Z"⟩, 62), (⟨"MangleTownModel", "isTwice", "(I)Z"⟩, 62), (⟨"MangleTownModel", "readsRains", "()Z"⟩, 62)]
theorem lw_r4 : ∀ q ∈ lw_privs_4, lw_okq q := List.forall_mem_cons.mpr ⟨lw_p48, List.forall_mem_cons.mpr ⟨lw_p49, List.forall_mem_cons.mpr ⟨lw_p50, List.forall_mem_cons.mpr ⟨lw_p51, List.forall_mem_cons.mpr ⟨lw_p52, List.forall_mem_cons.mpr ⟨lw_p53, List.forall_mem_cons.mpr ⟨lw_p54, List.forall_mem_cons.mpr ⟨lw_p55, List.forall_mem_cons.mpr ⟨lw_p56, List.forall_mem_cons.mpr ⟨lw_p57, List.forall_mem_cons.mpr ⟨lw_p58, List.forall_mem_cons.mpr ⟨lw_p59, List.forall_mem_cons.mpr ⟨lw_p60, List.forall_mem_cons.mpr ⟨lw_p61, List.forall_mem_cons.mpr ⟨lw_p62, List.forall_mem_cons.mpr ⟨lw_p63, fun _ h => absurd h List.not_mem_nil⟩⟩⟩⟩⟩⟩⟩⟩⟩⟩⟩⟩⟩⟩⟩⟩
theorem lw_p64 : lw_okq (⟨"MangleTownModel", "readsLaw", "(I)Z"⟩, 62) := ⟨⟨by decide +kernel, by decide +kernel⟩, List.mem_of_getElem? (i := 1228) (by decide +kernel), List.mem_of_getElem? (i := 1536) (by decide +kernel), List.mem_of_getElem? (i := 1537) (by decide +kernel)⟩
theorem lw_p65 : lw_okq (⟨"MangleTownModel", "reads", "()Z"⟩, 62) := ⟨⟨by decide +kernel, by decide +kernel⟩, List.mem_of_getElem? (i := 1228) (by decide +kernel), List.mem_of_getElem? (i := 1540) (by decide +kernel), List.mem_of_getElem? (i := 1541) (by decide +kernel)⟩
theorem lw_p66 : lw_okq (⟨"MangleTownModel", "fact", "()I"⟩, 62) := ⟨⟨by decide +kernel, by decide +kernel⟩, List.mem_of_getElem? (i := 1228) (by decide +kernel), List.mem_of_getElem? (i := 1544) (by decide +kernel), List.mem_of_getElem? (i := 1545) (by decide +kernel)⟩
theorem lw_p67 : lw_okq (⟨"MangleTownModel", "puts", "(I)V"⟩, 62) := ⟨⟨by decide +kernel, by decide +kernel⟩, List.mem_of_getElem? (i := 1228) (by decide +kernel), List.mem_of_getElem? (i := 1553) (by decide +kernel), List.mem_of_getElem? (i := 1554) (by decide +kernel)⟩
theorem lw_p68 : lw_okq (⟨"MangleTownModel", "lays", "()V"⟩, 62) := ⟨⟨by decide +kernel, by decide +kernel⟩, List.mem_of_getElem? (i := 1228) (by decide +kernel), List.mem_of_getElem? (i := 1557) (by decide +kernel), List.mem_of_getElem? (i := 1558) (by decide +kernel)⟩
theorem lw_p69 : lw_okq (⟨"MangleTownModel", "readsLine", "()Z"⟩, 62) := ⟨⟨by decide +kernel, by decide +kernel⟩, List.mem_of_getElem? (i := 1228) (by decide +kernel), List.mem_of_getElem? (i := 1568) (by decide +kernel), List.mem_of_getElem? (i := 1569) (by decide +kernel)⟩
theorem lw_p70 : lw_okq (⟨"MangleTownModel", "laysLines", "(II)V"⟩, 62) := ⟨⟨by decide +kernel, by decide +kernel⟩, List.mem_of_getElem? (i := 1228) (by decide +kernel), List.mem_of_getElem? (i := 1572) (by decide +kernel), List.mem_of_getElem? (i := 1573) (by decide +kernel)⟩
theorem lw_p71 : lw_okq (⟨"MangleTownModel", "isHouse", "(I)Z"⟩, 62) := ⟨⟨by decide +kernel, by decide +kernel⟩, List.mem_of_getElem? (i := 1228) (by decide +kernel), List.mem_of_getElem? (i := 1580) (by decide +kernel), List.mem_of_getElem? (i := 1581) (by decide +kernel)⟩
theorem lw_p72 : lw_okq (⟨"MangleTownModel", "placeOf", "(I)I"⟩, 62) := ⟨⟨by decide +kernel, by decide +kernel⟩, List.mem_of_getElem? (i := 1228) (by decide +kernel), List.mem_of_getElem? (i := 1584) (by decide +kernel), List.mem_of_getElem? (i := 1585) (by decide +kernel)⟩
theorem lw_p73 : lw_okq (⟨"MangleTownModel", "isGoing", "(I)Z"⟩, 62) := ⟨⟨by decide +kernel, by decide +kernel⟩, List.mem_of_getElem? (i := 1228) (by decide +kernel), List.mem_of_getElem? (i := 1596) (by decide +kernel), List.mem_of_getElem? (i := 1597) (by decide +kernel)⟩
theorem lw_p74 : lw_okq (⟨"MangleTownModel", "aheadOf", "(I)I"⟩, 62) := ⟨⟨by decide +kernel, by decide +kernel⟩, List.mem_of_getElem? (i := 1228) (by decide +kernel), List.mem_of_getElem? (i := 1600) (by decide +kernel), List.mem_of_getElem? (i := 1601) (by decide +kernel)⟩
theorem lw_p75 : lw_okq (⟨"MangleTownModel", "pressedOf", "(I)I"⟩, 62) := ⟨⟨by decide +kernel, by decide +kernel⟩, List.mem_of_getElem? (i := 1228) (by decide +kernel), List.mem_of_getElem? (i := 1608) (by decide +kernel), List.mem_of_getElem? (i := 1609) (by decide +kernel)⟩
theorem lw_p76 : lw_okq (⟨"MangleTownModel", "worked", "(I)I"⟩, 62) := ⟨⟨by decide +kernel, by decide +kernel⟩, List.mem_of_getElem? (i := 1228) (by decide +kernel), List.mem_of_getElem? (i := 1612) (by decide +kernel), List.mem_of_getElem? (i := 1613) (by decide +kernel)⟩
theorem lw_p77 : lw_okq (⟨"MangleTownModel", "opens", "(I)V"⟩, 62) := ⟨⟨by decide +kernel, by decide +kernel⟩, List.mem_of_getElem? (i := 1228) (by decide +kernel), List.mem_of_getElem? (i := 1616) (by decide +kernel), List.mem_of_getElem? (i := 1617) (by decide +kernel)⟩
theorem lw_p78 : lw_okq (⟨"MangleTownModel", "sums", "(I)V"⟩, 62) := ⟨⟨by decide +kernel, by decide +kernel⟩, List.mem_of_getElem? (i := 1228) (by decide +kernel), List.mem_of_getElem? (i := 1620) (by decide +kernel), List.mem_of_getElem? (i := 1621) (by decide +kernel)⟩
theorem lw_p79 : lw_okq (⟨"MangleTownModel", "tests", "(I)V"⟩, 62) := ⟨⟨by decide +kernel, by decide +kernel⟩, List.mem_of_getElem? (i := 1228) (by decide +kernel), List.mem_of_getElem? (i := 1624) (by decide +kernel), List.mem_of_getElem? (i := 1625) (by decide +kernel)⟩
def lw_privs_5 : List (MethodName × Nat) := [(⟨"MangleTownModel", "readsLaw", "(I)Z"⟩, 62), (⟨"MangleTownModel", "reads", "()Z"⟩, 62), (⟨"MangleTownModel", "fact", "()I"⟩, 62), (⟨"MangleTownModel", "puts", "(I)V"⟩, 62), (⟨"MangleTownModel", "lays", "()V"⟩, 62), (⟨"MangleTownModel", "readsLine", "()Z"⟩, 62), (⟨"MangleTownModel", "laysLines", "(II)V"⟩, 62), (⟨"MangleTownModel", "isHouse", "(I)Z"⟩, 62), (⟨"MangleTownModel", "placeOf", "(I)I"⟩, 62), (⟨"MangleTownModel", "isGoing", "(I)Z"⟩, 62), (⟨"MangleTownModel", "aheadOf", "(I)I"⟩, 62), (⟨"MangleTownModel", "pressedOf", "(I)I"⟩, 62), (⟨"MangleTownModel", "worked", "(I)I"⟩, 62), (⟨"MangleTownModel", "opens", "(I)V"⟩, 62), (⟨"MangleTownModel", "sums", "(I)V"⟩, 62), (⟨"MangleTownModel", "tests", "(I)V"⟩, 62)]
theorem lw_r5 : ∀ q ∈ lw_privs_5, lw_okq q := List.forall_mem_cons.mpr ⟨lw_p64, List.forall_mem_cons.mpr ⟨lw_p65, List.forall_mem_cons.mpr ⟨lw_p66, List.forall_mem_cons.mpr ⟨lw_p67, List.forall_mem_cons.mpr ⟨lw_p68, List.forall_mem_cons.mpr ⟨lw_p69, List.forall_mem_cons.mpr ⟨lw_p70, List.forall_mem_cons.mpr ⟨lw_p71, List.forall_mem_cons.mpr ⟨lw_p72, List.forall_mem_cons.mpr ⟨lw_p73, List.forall_mem_cons.mpr ⟨lw_p74, List.forall_mem_cons.mpr ⟨lw_p75, List.forall_mem_cons.mpr ⟨lw_p76, List.forall_mem_cons.mpr ⟨lw_p77, List.forall_mem_cons.mpr ⟨lw_p78, List.forall_mem_cons.mpr ⟨lw_p79, fun _ h => absurd h List.not_mem_nil⟩⟩⟩⟩⟩⟩⟩⟩⟩⟩⟩⟩⟩⟩⟩⟩
theorem lw_p80 : lw_okq (⟨"MangleTownModel", "printedBy", "(II)I"⟩, 62) := ⟨⟨by decide +kernel, by decide +kernel⟩, List.mem_of_getElem? (i := 1228) (by decide +kernel), List.mem_of_getElem? (i := 1636) (by decide +kernel), List.mem_of_getElem? (i := 1637) (by decide +kernel)⟩
theorem lw_p81 : lw_okq (⟨"MangleTownModel", "keeps", "()V"⟩, 62) := ⟨⟨by decide +kernel, by decide +kernel⟩, List.mem_of_getElem? (i := 1228) (by decide +kernel), List.mem_of_getElem? (i := 1644) (by decide +kernel), List.mem_of_getElem? (i := 1645) (by decide +kernel)⟩
theorem lw_p82 : lw_okq (⟨"MangleTownModel", "laysAt", "(II)V"⟩, 62) := ⟨⟨by decide +kernel, by decide +kernel⟩, List.mem_of_getElem? (i := 1228) (by decide +kernel), List.mem_of_getElem? (i := 1651) (by decide +kernel), List.mem_of_getElem? (i := 1652) (by decide +kernel)⟩
theorem lw_p83 : lw_okq (⟨"MangleTownModel", "runs", "()I"⟩, 62) := ⟨⟨by decide +kernel, by decide +kernel⟩, List.mem_of_getElem? (i := 1228) (by decide +kernel), List.mem_of_getElem? (i := 1663) (by decide +kernel), List.mem_of_getElem? (i := 1664) (by decide +kernel)⟩
theorem lw_p84 : lw_okq (⟨"MangleTownModel", "goesThrough", "(II)I"⟩, 62) := ⟨⟨by decide +kernel, by decide +kernel⟩, List.mem_of_getElem? (i := 1228) (by decide +kernel), List.mem_of_getElem? (i := 1667) (by decide +kernel), List.mem_of_getElem? (i := 1668) (by decide +kernel)⟩
theorem lw_p85 : lw_okq (⟨"MangleTownModel", "rainNow", "()I"⟩, 62) := ⟨⟨by decide +kernel, by decide +kernel⟩, List.mem_of_getElem? (i := 1228) (by decide +kernel), List.mem_of_getElem? (i := 1671) (by decide +kernel), List.mem_of_getElem? (i := 1672) (by decide +kernel)⟩
theorem lw_p86 : lw_okq (⟨"MangleTownModel", "sells", "(I)V"⟩, 62) := ⟨⟨by decide +kernel, by decide +kernel⟩, List.mem_of_getElem? (i := 1228) (by decide +kernel), List.mem_of_getElem? (i := 1679) (by decide +kernel), List.mem_of_getElem? (i := 1680) (by decide +kernel)⟩
theorem lw_p87 : lw_okq (⟨"MangleTownModel", "shunnedNow", "()I"⟩, 62) := ⟨⟨by decide +kernel, by decide +kernel⟩, List.mem_of_getElem? (i := 1228) (by decide +kernel), List.mem_of_getElem? (i := 1691) (by decide +kernel), List.mem_of_getElem? (i := 1692) (by decide +kernel)⟩
theorem lw_p88 : lw_okq (⟨"MangleTownModel", "doesShun", "(II)Z"⟩, 62) := ⟨⟨by decide +kernel, by decide +kernel⟩, List.mem_of_getElem? (i := 1228) (by decide +kernel), List.mem_of_getElem? (i := 1695) (by decide +kernel), List.mem_of_getElem? (i := 1696) (by decide +kernel)⟩
theorem lw_p89 : lw_okq (⟨"MangleTownModel", "goes", "(I)Z"⟩, 62) := ⟨⟨by decide +kernel, by decide +kernel⟩, List.mem_of_getElem? (i := 1228) (by decide +kernel), List.mem_of_getElem? (i := 1699) (by decide +kernel), List.mem_of_getElem? (i := 1700) (by decide +kernel)⟩
theorem lw_p90 : lw_okq (⟨"MangleTownModel", "going", "()I"⟩, 62) := ⟨⟨by decide +kernel, by decide +kernel⟩, List.mem_of_getElem? (i := 1228) (by decide +kernel), List.mem_of_getElem? (i := 1711) (by decide +kernel), List.mem_of_getElem? (i := 1712) (by decide +kernel)⟩
theorem lw_p91 : lw_okq (⟨"MangleTownModel", "goesOn", "(IIII)V"⟩, 62) := ⟨⟨by decide +kernel, by decide +kernel⟩, List.mem_of_getElem? (i := 1228) (by decide +kernel), List.mem_of_getElem? (i := 1715) (by decide +kernel), List.mem_of_getElem? (i := 1716) (by decide +kernel)⟩
theorem lw_p92 : lw_okq (⟨"MangleTownModel", "canGo", "(II)Z"⟩, 62) := ⟨⟨by decide +kernel, by decide +kernel⟩, List.mem_of_getElem? (i := 1228) (by decide +kernel), List.mem_of_getElem? (i := 1726) (by decide +kernel), List.mem_of_getElem? (i := 1727) (by decide +kernel)⟩
theorem lw_p93 : lw_okq (⟨"MangleTownModel", "together", "(I)I"⟩, 62) := ⟨⟨by decide +kernel, by decide +kernel⟩, List.mem_of_getElem? (i := 1228) (by decide +kernel), List.mem_of_getElem? (i := 1734) (by decide +kernel), List.mem_of_getElem? (i := 1735) (by decide +kernel)⟩
theorem lw_p94 : lw_okq (⟨"MangleTownModel", "isSomeDry", "(I)Z"⟩, 62) := ⟨⟨by decide +kernel, by decide +kernel⟩, List.mem_of_getElem? (i := 1228) (by decide +kernel), List.mem_of_getElem? (i := 1742) (by decide +kernel), List.mem_of_getElem? (i := 1743) (by decide +kernel)⟩
theorem lw_p95 : lw_okq (⟨"MangleTownModel", "isAsHeard", "(I)Z"⟩, 62) := ⟨⟨by decide +kernel, by decide +kernel⟩, List.mem_of_getElem? (i := 1228) (by decide +kernel), List.mem_of_getElem? (i := 1754) (by decide +kernel), List.mem_of_getElem? (i := 1755) (by decide +kernel)⟩
def lw_privs_6 : List (MethodName × Nat) := [(⟨"MangleTownModel", "printedBy", "(II)I"⟩, 62), (⟨"MangleTownModel", "keeps", "()V"⟩, 62), (⟨"MangleTownModel", "laysAt", "(II)V"⟩, 62), (⟨"MangleTownModel", "runs", "()I"⟩, 62), (⟨"MangleTownModel", "goesThrough", "(II)I"⟩, 62), (⟨"MangleTownModel", "rainNow", "()I"⟩, 62), (⟨"MangleTownModel", "sells", "(I)V"⟩, 62), (⟨"MangleTownModel", "shunnedNow", "()I"⟩, 62), (⟨"MangleTownModel", "doesShun", "(II)Z"⟩, 62), (⟨"MangleTownModel", "goes", "(I)Z"⟩, 62), (⟨"MangleTownModel", "going", "()I"⟩, 62), (⟨"MangleTownModel", "goesOn", "(IIII)V"⟩, 62), (⟨"MangleTownModel", "canGo", "(II)Z"⟩, 62), (⟨"MangleTownModel", "together", "(I)I"⟩, 62), (⟨"MangleTownModel", "isSomeDry", "(I)Z"⟩, 62), (⟨"MangleTownModel", "isAsHeard", "(I)Z"⟩, 62)]
theorem lw_r6 : ∀ q ∈ lw_privs_6, lw_okq q := List.forall_mem_cons.mpr ⟨lw_p80, List.forall_mem_cons.mpr ⟨lw_p81, List.forall_mem_cons.mpr ⟨lw_p82, List.forall_mem_cons.mpr ⟨lw_p83, List.forall_mem_cons.mpr ⟨lw_p84, List.forall_mem_cons.mpr ⟨lw_p85, List.forall_mem_cons.mpr ⟨lw_p86, List.forall_mem_cons.mpr ⟨lw_p87, List.forall_mem_cons.mpr ⟨lw_p88, List.forall_mem_cons.mpr ⟨lw_p89, List.forall_mem_cons.mpr ⟨lw_p90, List.forall_mem_cons.mpr ⟨lw_p91, List.forall_mem_cons.mpr ⟨lw_p92, List.forall_mem_cons.mpr ⟨lw_p93, List.forall_mem_cons.mpr ⟨lw_p94, List.forall_mem_cons.mpr ⟨lw_p95, fun _ h => absurd h List.not_mem_nil⟩⟩⟩⟩⟩⟩⟩⟩⟩⟩⟩⟩⟩⟩⟩⟩
theorem lw_p96 : lw_okq (⟨"MangleTownModel", "laysOrders", "()I"⟩, 62) := ⟨⟨by decide +kernel, by decide +kernel⟩, List.mem_of_getElem? (i := 1228) (by decide +kernel), List.mem_of_getElem? (i := 1772) (by decide +kernel), List.mem_of_getElem? (i := 1773) (by decide +kernel)⟩
theorem lw_p97 : lw_okq (⟨"MangleTownModel", "mayFollow", "(II)Z"⟩, 62) := ⟨⟨by decide +kernel, by decide +kernel⟩, List.mem_of_getElem? (i := 1228) (by decide +kernel), List.mem_of_getElem? (i := 1776) (by decide +kernel), List.mem_of_getElem? (i := 1777) (by decide +kernel)⟩
theorem lw_p98 : lw_okq (⟨"MangleTownModel", "laysAheads", "()V"⟩, 62) := ⟨⟨by decide +kernel, by decide +kernel⟩, List.mem_of_getElem? (i := 1228) (by decide +kernel), List.mem_of_getElem? (i := 1788) (by decide +kernel), List.mem_of_getElem? (i := 1789) (by decide +kernel)⟩
theorem lw_p99 : lw_okq (⟨"MangleTownModel", "likeliest", "(I)I"⟩, 62) := ⟨⟨by decide +kernel, by decide +kernel⟩, List.mem_of_getElem? (i := 1228) (by decide +kernel), List.mem_of_getElem? (i := 1801) (by decide +kernel), List.mem_of_getElem? (i := 1802) (by decide +kernel)⟩
theorem lw_p100 : lw_okq (⟨"MangleTownModel", "livesAhead", "()V"⟩, 62) := ⟨⟨by decide +kernel, by decide +kernel⟩, List.mem_of_getElem? (i := 1228) (by decide +kernel), List.mem_of_getElem? (i := 1824) (by decide +kernel), List.mem_of_getElem? (i := 1825) (by decide +kernel)⟩
theorem lw_p101 : lw_okq (⟨"MangleTownModel", "draws", "(I)I"⟩, 62) := ⟨⟨by decide +kernel, by decide +kernel⟩, List.mem_of_getElem? (i := 1228) (by decide +kernel), List.mem_of_getElem? (i := 1828) (by decide +kernel), List.mem_of_getElem? (i := 1829) (by decide +kernel)⟩
theorem lw_p102 : lw_okq (⟨"MangleTownModel", "laysSeen", "(II)V"⟩, 62) := ⟨⟨by decide +kernel, by decide +kernel⟩, List.mem_of_getElem? (i := 1228) (by decide +kernel), List.mem_of_getElem? (i := 1840) (by decide +kernel), List.mem_of_getElem? (i := 1841) (by decide +kernel)⟩
def lw_privs_7 : List (MethodName × Nat) := [(⟨"MangleTownModel", "laysOrders", "()I"⟩, 62), (⟨"MangleTownModel", "mayFollow", "(II)Z"⟩, 62), (⟨"MangleTownModel", "laysAheads", "()V"⟩, 62), (⟨"MangleTownModel", "likeliest", "(I)I"⟩, 62), (⟨"MangleTownModel", "livesAhead", "()V"⟩, 62), (⟨"MangleTownModel", "draws", "(I)I"⟩, 62), (⟨"MangleTownModel", "laysSeen", "(II)V"⟩, 62)]
theorem lw_r7 : ∀ q ∈ lw_privs_7, lw_okq q := List.forall_mem_cons.mpr ⟨lw_p96, List.forall_mem_cons.mpr ⟨lw_p97, List.forall_mem_cons.mpr ⟨lw_p98, List.forall_mem_cons.mpr ⟨lw_p99, List.forall_mem_cons.mpr ⟨lw_p100, List.forall_mem_cons.mpr ⟨lw_p101, List.forall_mem_cons.mpr ⟨lw_p102, fun _ h => absurd h List.not_mem_nil⟩⟩⟩⟩⟩⟩⟩
def lw_privs : List (MethodName × Nat) := lw_privs_1 ++ (lw_privs_2 ++ (lw_privs_3 ++ (lw_privs_4 ++ (lw_privs_5 ++ (lw_privs_6 ++ (lw_privs_7))))))
def lw_tbl : List Cond := k2_sels lw_privs ++ tables_1
theorem lw_privs_ok : ∀ q ∈ lw_privs, lw_okq q := by
  show ∀ q ∈ lw_privs_1 ++ (lw_privs_2 ++ (lw_privs_3 ++ (lw_privs_4 ++ (lw_privs_5 ++ (lw_privs_6 ++ (lw_privs_7)))))), lw_okq q
  exact List.forall_mem_append.mpr ⟨lw_r1, List.forall_mem_append.mpr ⟨lw_r2, List.forall_mem_append.mpr ⟨lw_r3, List.forall_mem_append.mpr ⟨lw_r4, List.forall_mem_append.mpr ⟨lw_r5, List.forall_mem_append.mpr ⟨lw_r6, lw_r7⟩⟩⟩⟩⟩⟩
def RX0 : String := "MangleTown$1"
def TX0 : u_T := fun k => match k with
  | _ => ("", "", "", false)
def tyX0 : Nat → FieldType := fun k => match k with
  | _ => .int
abbrev wsX00 : List Cond := u_ws RX0 TX0 0
theorem nmX0 : ∀ a, a < 0 → ∀ b, b < 0 → a ≠ b → (TX0 a).2.1 ≠ (TX0 b).2.1 := by decide +kernel
theorem tyX0_ok : ∀ k, k < 0 → parseFieldDescriptor (TX0 k).2.2.1 = some (tyX0 k) := by decide +kernel
def RX1 : String := "MangleTown$Law"
def TX1 : u_T := fun k => match k with
  | 0 => ("MangleTown$Law", "ofPrints", "Z", true)
  | 1 => ("MangleTown$Law", "code", "[I", true)
  | 2 => ("MangleTown$Law", "stack", "[I", true)
  | _ => ("MangleTown$Law", "length", "I", false)
def tyX1 : Nat → FieldType := fun k => match k with
  | 0 => .boolean
  | 1 => .array .int
  | 2 => .array .int
  | _ => .int
abbrev wsX10 : List Cond := u_ws RX1 TX1 4
theorem nmX1 : ∀ a, a < 4 → ∀ b, b < 4 → a ≠ b → (TX1 a).2.1 ≠ (TX1 b).2.1 := by decide +kernel
theorem tyX1_ok : ∀ k, k < 4 → parseFieldDescriptor (TX1 k).2.2.1 = some (tyX1 k) := by decide +kernel
abbrev cX1_init : ByteArray := prog_3_method_1_code
def yX1_init : MethodName := ⟨RX1, "<init>", "(Z)V"⟩
abbrev cX1_forget : ByteArray := prog_3_method_2_code
def yX1_forget : MethodName := ⟨RX1, "forget", "()V"⟩
abbrev cX1_isTold : ByteArray := prog_3_method_3_code
def yX1_isTold : MethodName := ⟨RX1, "isTold", "()Z"⟩
abbrev cX1_readFrom : ByteArray := prog_3_method_4_code
def yX1_readFrom : MethodName := ⟨RX1, "readFrom", "(LMangleTown$Tape;)Z"⟩
abbrev cX1_add : ByteArray := prog_3_method_5_code
def yX1_add : MethodName := ⟨RX1, "add", "(I)V"⟩
abbrev cX1_readE : ByteArray := prog_3_method_6_code
def yX1_readE : MethodName := ⟨RX1, "readE", "(LMangleTown$Tape;I)Z"⟩
abbrev cX1_readTest : ByteArray := prog_3_method_7_code
def yX1_readTest : MethodName := ⟨RX1, "readTest", "(LMangleTown$Tape;I)Z"⟩
abbrev cX1_readSum : ByteArray := prog_3_method_8_code
def yX1_readSum : MethodName := ⟨RX1, "readSum", "(LMangleTown$Tape;I)Z"⟩
abbrev cX1_readProduct : ByteArray := prog_3_method_9_code
def yX1_readProduct : MethodName := ⟨RX1, "readProduct", "(LMangleTown$Tape;I)Z"⟩
abbrev cX1_readPart : ByteArray := prog_3_method_10_code
def yX1_readPart : MethodName := ⟨RX1, "readPart", "(LMangleTown$Tape;I)Z"⟩
abbrev cX1_factCode : ByteArray := prog_3_method_11_code
def yX1_factCode : MethodName := ⟨RX1, "factCode", "(LMangleTown$Word;)I"⟩
abbrev cX1_value : ByteArray := prog_3_method_12_code
def yX1_value : MethodName := ⟨RX1, "value", "(IIIII)I"⟩
abbrev cX1_leafValue : ByteArray := prog_3_method_13_code
def yX1_leafValue : MethodName := ⟨RX1, "leafValue", "(IIIIII)I"⟩
abbrev cX1_joined : ByteArray := prog_3_method_14_code
def yX1_joined : MethodName := ⟨RX1, "joined", "(III)I"⟩
def RX2 : String := "MangleTown$Mangle"
def TX2 : u_T := fun k => match k with
  | 0 => ("MangleTown$Mangle", "cameOut", "I", false)
  | 1 => ("MangleTown$Mangle", "blotted", "I", false)
  | 2 => ("MangleTown$Mangle", "brokenLine", "I", false)
  | 3 => ("MangleTown$Mangle", "shunnedLine", "I", false)
  | 4 => ("MangleTown$Mangle", "cameInAll", "I", false)
  | 5 => ("MangleTown$Mangle", "printedInAll", "I", false)
  | _ => ("MangleTown$Mangle", "drawn", "J", false)
def tyX2 : Nat → FieldType := fun k => match k with
  | 0 => .int
  | 1 => .int
  | 2 => .int
  | 3 => .int
  | 4 => .int
  | 5 => .int
  | _ => .long
abbrev wsX20 : List Cond := u_ws RX2 TX2 7
theorem nmX2 : ∀ a, a < 7 → ∀ b, b < 7 → a ≠ b → (TX2 a).2.1 ≠ (TX2 b).2.1 := by decide +kernel
theorem tyX2_ok : ∀ k, k < 7 → parseFieldDescriptor (TX2 k).2.2.1 = some (tyX2 k) := by decide +kernel
abbrev cX2_init : ByteArray := prog_4_method_1_code
def yX2_init : MethodName := ⟨RX2, "<init>", "()V"⟩
abbrev cX2_drawThrough : ByteArray := prog_4_method_2_code
def yX2_drawThrough : MethodName := ⟨RX2, "drawThrough", "(LMangleTown$Town;LMangleTown$State;)V"⟩
abbrev cX2_pressOne : ByteArray := prog_4_method_3_code
def yX2_pressOne : MethodName := ⟨RX2, "pressOne", "(LMangleTown$Town;LMangleTown$State;II)V"⟩
abbrev cX2_judge : ByteArray := prog_4_method_4_code
def yX2_judge : MethodName := ⟨RX2, "judge", "(LMangleTown$Town;LMangleTown$Years;LMangleTown$State;)V"⟩
abbrev cX2_follow : ByteArray := prog_4_method_5_code
def yX2_follow : MethodName := ⟨RX2, "follow", "(LMangleTown$Town;LMangleTown$Years;ILMangleTown$State;)Z"⟩
abbrev cX2_passDecades : ByteArray := prog_4_method_6_code
def yX2_passDecades : MethodName := ⟨RX2, "passDecades", "(LMangleTown$Town;LMangleTown$State;II)V"⟩
abbrev cX2_shuffle : ByteArray := prog_4_method_7_code
def yX2_shuffle : MethodName := ⟨RX2, "shuffle", "(LMangleTown$Town;LMangleTown$State;)V"⟩
abbrev cX2_drawBelow : ByteArray := prog_4_method_8_code
def yX2_drawBelow : MethodName := ⟨RX2, "drawBelow", "(I)I"⟩
def RX3 : String := "MangleTown$Rows"
def TX3 : u_T := fun k => match k with
  | 0 => ("MangleTown$Rows", "bestRow", "[I", true)
  | 1 => ("MangleTown$Rows", "bestTotal", "I", false)
  | 2 => ("MangleTown$Rows", "blots", "[I", true)
  | 3 => ("MangleTown$Rows", "rest", "[I", true)
  | 4 => ("MangleTown$Rows", "lastsOf", "[I", true)
  | 5 => ("MangleTown$Rows", "ways", "[I", true)
  | _ => ("MangleTown$Rows", "mustBeAhead", "[I", true)
def tyX3 : Nat → FieldType := fun k => match k with
  | 0 => .array .int
  | 1 => .int
  | 2 => .array .int
  | 3 => .array .int
  | 4 => .array .int
  | 5 => .array .int
  | _ => .array .int
abbrev wsX30 : List Cond := u_ws RX3 TX3 7
theorem nmX3 : ∀ a, a < 7 → ∀ b, b < 7 → a ≠ b → (TX3 a).2.1 ≠ (TX3 b).2.1 := by decide +kernel
theorem tyX3_ok : ∀ k, k < 7 → parseFieldDescriptor (TX3 k).2.2.1 = some (tyX3 k) := by decide +kernel
abbrev cX3_init : ByteArray := prog_5_method_1_code
def yX3_init : MethodName := ⟨RX3, "<init>", "()V"⟩
abbrev cX3_leastRoad : ByteArray := prog_5_method_2_code
def yX3_leastRoad : MethodName := ⟨RX3, "leastRoad", "(LMangleTown$Town;LMangleTown$State;)I"⟩
abbrev cX3_findLasts : ByteArray := prog_5_method_3_code
def yX3_findLasts : MethodName := ⟨RX3, "findLasts", "(LMangleTown$Town;)V"⟩
abbrev cX3_lastsBehind : ByteArray := prog_5_method_4_code
def yX3_lastsBehind : MethodName := ⟨RX3, "lastsBehind", "(LMangleTown$Town;II)I"⟩
abbrev cX3_shunsLast : ByteArray := prog_5_method_5_code
def yX3_shunsLast : MethodName := ⟨RX3, "shunsLast", "(LMangleTown$Town;II)Z"⟩
abbrev cX3_findBest : ByteArray := prog_5_method_6_code
def yX3_findBest : MethodName := ⟨RX3, "findBest", "(LMangleTown$Town;LMangleTown$State;)V"⟩
abbrev cX3_findBlots : ByteArray := prog_5_method_7_code
def yX3_findBlots : MethodName := ⟨RX3, "findBlots", "(LMangleTown$Town;LMangleTown$State;)V"⟩
abbrev cX3_findRest : ByteArray := prog_5_method_8_code
def yX3_findRest : MethodName := ⟨RX3, "findRest", "(LMangleTown$Town;IIZ)V"⟩
abbrev cX3_restBy : ByteArray := prog_5_method_9_code
def yX3_restBy : MethodName := ⟨RX3, "restBy", "(LMangleTown$Town;IIIZ)I"⟩
abbrev cX3_layBestRow : ByteArray := prog_5_method_10_code
def yX3_layBestRow : MethodName := ⟨RX3, "layBestRow", "(LMangleTown$Town;IZ)V"⟩
abbrev cX3_firstOfLeast : ByteArray := prog_5_method_11_code
def yX3_firstOfLeast : MethodName := ⟨RX3, "firstOfLeast", "(LMangleTown$Town;IIIZ)I"⟩
abbrev cX3_countOrders : ByteArray := prog_5_method_12_code
def yX3_countOrders : MethodName := ⟨RX3, "countOrders", "(LMangleTown$Standing;I)I"⟩
abbrev cX3_countWays : ByteArray := prog_5_method_13_code
def yX3_countWays : MethodName := ⟨RX3, "countWays", "(I)I"⟩
abbrev cX3_firstOrderAt : ByteArray := prog_5_method_14_code
def yX3_firstOrderAt : MethodName := ⟨RX3, "firstOrderAt", "(II)I"⟩
abbrev cX3_firstFree : ByteArray := prog_5_method_15_code
def yX3_firstFree : MethodName := ⟨RX3, "firstFree", "(II)I"⟩
abbrev cX3_bestQuestion : ByteArray := prog_5_method_16_code
def yX3_bestQuestion : MethodName := ⟨RX3, "bestQuestion", "(LMangleTown$Standing;I)I"⟩
abbrev cX3_greaterPart : ByteArray := prog_5_method_17_code
def yX3_greaterPart : MethodName := ⟨RX3, "greaterPart", "(IIII)I"⟩
def RX4 : String := "MangleTown$Secrets"
def TX4 : u_T := fun k => match k with
  | 0 => ("MangleTown$Secrets", "sets", "I", false)
  | 1 => ("MangleTown$Secrets", "inAll", "I", false)
  | 2 => ("MangleTown$Secrets", "inSome", "I", false)
  | 3 => ("MangleTown$Secrets", "given", "[I", true)
  | _ => ("MangleTown$Secrets", "timesIn", "[I", true)
def tyX4 : Nat → FieldType := fun k => match k with
  | 0 => .int
  | 1 => .int
  | 2 => .int
  | 3 => .array .int
  | _ => .array .int
abbrev wsX40 : List Cond := u_ws RX4 TX4 5
theorem nmX4 : ∀ a, a < 5 → ∀ b, b < 5 → a ≠ b → (TX4 a).2.1 ≠ (TX4 b).2.1 := by decide +kernel
theorem tyX4_ok : ∀ k, k < 5 → parseFieldDescriptor (TX4 k).2.2.1 = some (tyX4 k) := by decide +kernel
abbrev cX4_init : ByteArray := prog_6_method_1_code
def yX4_init : MethodName := ⟨RX4, "<init>", "()V"⟩
abbrev cX4_weigh : ByteArray := prog_6_method_2_code
def yX4_weigh : MethodName := ⟨RX4, "weigh", "(LMangleTown$Town;LMangleTown$State;I)V"⟩
abbrev cX4_sumOf : ByteArray := prog_6_method_3_code
def yX4_sumOf : MethodName := ⟨RX4, "sumOf", "(II)I"⟩
abbrev cX4_keep : ByteArray := prog_6_method_4_code
def yX4_keep : MethodName := ⟨RX4, "keep", "(II)V"⟩
abbrev cX4_bestParting : ByteArray := prog_6_method_5_code
def yX4_bestParting : MethodName := ⟨RX4, "bestParting", "(I)I"⟩
def RX5 : String := "MangleTown$Standing"
def TX5 : u_T := fun k => match k with
  | 0 => ("MangleTown$Standing", "state", "LMangleTown$State;", true)
  | 1 => ("MangleTown$Standing", "years", "LMangleTown$Years;", true)
  | 2 => ("MangleTown$Standing", "seenAhead", "[I", true)
  | 3 => ("MangleTown$Standing", "seenBehind", "[I", true)
  | 4 => ("MangleTown$Standing", "seen", "I", false)
  | _ => ("MangleTown$Standing", "heard", "I", false)
def tyX5 : Nat → FieldType := fun k => match k with
  | 0 => .object "MangleTown$State"
  | 1 => .object "MangleTown$Years"
  | 2 => .array .int
  | 3 => .array .int
  | 4 => .int
  | _ => .int
abbrev wsX50 : List Cond := u_ws RX5 TX5 6
theorem nmX5 : ∀ a, a < 6 → ∀ b, b < 6 → a ≠ b → (TX5 a).2.1 ≠ (TX5 b).2.1 := by decide +kernel
theorem tyX5_ok : ∀ k, k < 6 → parseFieldDescriptor (TX5 k).2.2.1 = some (tyX5 k) := by decide +kernel
abbrev cX5_init : ByteArray := prog_7_method_1_code
def yX5_init : MethodName := ⟨RX5, "<init>", "()V"⟩
abbrev cX5_beginAs : ByteArray := prog_7_method_2_code
def yX5_beginAs : MethodName := ⟨RX5, "beginAs", "(LMangleTown$State;)V"⟩
abbrev cX5_copyFrom : ByteArray := prog_7_method_3_code
def yX5_copyFrom : MethodName := ⟨RX5, "copyFrom", "(LMangleTown$Standing;)V"⟩
abbrev cX5_addSeen : ByteArray := prog_7_method_4_code
def yX5_addSeen : MethodName := ⟨RX5, "addSeen", "(II)Z"⟩
def RX6 : String := "MangleTown$State"
def TX6 : u_T := fun k => match k with
  | 0 => ("MangleTown$State", "thick", "[I", true)
  | 1 => ("MangleTown$State", "wet", "[I", true)
  | 2 => ("MangleTown$State", "printed", "[I", true)
  | 3 => ("MangleTown$State", "row", "[I", true)
  | 4 => ("MangleTown$State", "roadSet", "I", false)
  | 5 => ("MangleTown$State", "gap", "I", false)
  | 6 => ("MangleTown$State", "fortnight", "I", false)
  | 7 => ("MangleTown$State", "pints", "I", false)
  | _ => ("MangleTown$State", "coins", "I", false)
def tyX6 : Nat → FieldType := fun k => match k with
  | 0 => .array .int
  | 1 => .array .int
  | 2 => .array .int
  | 3 => .array .int
  | 4 => .int
  | 5 => .int
  | 6 => .int
  | 7 => .int
  | _ => .int
abbrev wsX60 : List Cond := u_ws RX6 TX6 9
theorem nmX6 : ∀ a, a < 9 → ∀ b, b < 9 → a ≠ b → (TX6 a).2.1 ≠ (TX6 b).2.1 := by decide +kernel
theorem tyX6_ok : ∀ k, k < 9 → parseFieldDescriptor (TX6 k).2.2.1 = some (tyX6 k) := by decide +kernel
abbrev cX6_init : ByteArray := prog_8_method_1_code
def yX6_init : MethodName := ⟨RX6, "<init>", "()V"⟩
abbrev cX6_beginAs : ByteArray := prog_8_method_2_code
def yX6_beginAs : MethodName := ⟨RX6, "beginAs", "(LMangleTown$Town;)V"⟩
abbrev cX6_copyFrom : ByteArray := prog_8_method_3_code
def yX6_copyFrom : MethodName := ⟨RX6, "copyFrom", "(LMangleTown$State;)V"⟩
abbrev cX6_goes : ByteArray := prog_8_method_4_code
def yX6_goes : MethodName := ⟨RX6, "goes", "(I)Z"⟩
abbrev cX6_goingSet : ByteArray := prog_8_method_5_code
def yX6_goingSet : MethodName := ⟨RX6, "goingSet", "(I)I"⟩
abbrev cX6_placeOf : ByteArray := prog_8_method_6_code
def yX6_placeOf : MethodName := ⟨RX6, "placeOf", "(II)I"⟩
abbrev cX6_nextAhead : ByteArray := prog_8_method_7_code
def yX6_nextAhead : MethodName := ⟨RX6, "nextAhead", "(LMangleTown$Town;I)I"⟩
abbrev cX6_shunnedBy : ByteArray := prog_8_method_8_code
def yX6_shunnedBy : MethodName := ⟨RX6, "shunnedBy", "(LMangleTown$Town;)I"⟩
abbrev cX6_moveTo : ByteArray := prog_8_method_9_code
def yX6_moveTo : MethodName := ⟨RX6, "moveTo", "(III)Z"⟩
abbrev cX6_turnRoad : ByteArray := prog_8_method_10_code
def yX6_turnRoad : MethodName := ⟨RX6, "turnRoad", "(I)V"⟩
abbrev cX6_sellPints : ByteArray := prog_8_method_11_code
def yX6_sellPints : MethodName := ⟨RX6, "sellPints", "(II)Z"⟩
abbrev cX6_takeOut : ByteArray := prog_8_method_12_code
def yX6_takeOut : MethodName := ⟨RX6, "takeOut", "(II)V"⟩
abbrev cX6_printOn : ByteArray := prog_8_method_13_code
def yX6_printOn : MethodName := ⟨RX6, "printOn", "(II)V"⟩
abbrev cX6_rainOn : ByteArray := prog_8_method_14_code
def yX6_rainOn : MethodName := ⟨RX6, "rainOn", "(II)V"⟩
abbrev cX6_allWet : ByteArray := prog_8_method_15_code
def yX6_allWet : MethodName := ⟨RX6, "allWet", "(I)I"⟩
abbrev cX6_allPrinted : ByteArray := prog_8_method_16_code
def yX6_allPrinted : MethodName := ⟨RX6, "allPrinted", "(I)I"⟩
abbrev cX6_someGoesWithin : ByteArray := prog_8_method_17_code
def yX6_someGoesWithin : MethodName := ⟨RX6, "someGoesWithin", "(II)Z"⟩
def RX7 : String := "MangleTown$Tape"
def TX7 : u_T := fun k => match k with
  | 0 => ("MangleTown$Tape", "text", "[B", true)
  | 1 => ("MangleTown$Tape", "signs", "I", false)
  | 2 => ("MangleTown$Tape", "length", "I", false)
  | 3 => ("MangleTown$Tape", "place", "I", false)
  | 4 => ("MangleTown$Tape", "behind", "I", false)
  | 5 => ("MangleTown$Tape", "kind", "I", false)
  | 6 => ("MangleTown$Tape", "word", "LMangleTown$Word;", false)
  | 7 => ("MangleTown$Tape", "letters", "J", false)
  | 8 => ("MangleTown$Tape", "number", "I", false)
  | 9 => ("MangleTown$Tape", "taken", "I", false)
  | 10 => ("MangleTown$Tape", "fault", "I", false)
  | _ => ("MangleTown$Tape", "sign", "I", false)
def tyX7 : Nat → FieldType := fun k => match k with
  | 0 => .array .byte
  | 1 => .int
  | 2 => .int
  | 3 => .int
  | 4 => .int
  | 5 => .int
  | 6 => .object "MangleTown$Word"
  | 7 => .long
  | 8 => .int
  | 9 => .int
  | 10 => .int
  | _ => .int
abbrev wsX70 : List Cond := u_ws RX7 TX7 12
theorem nmX7 : ∀ a, a < 12 → ∀ b, b < 12 → a ≠ b → (TX7 a).2.1 ≠ (TX7 b).2.1 := by decide +kernel
theorem tyX7_ok : ∀ k, k < 12 → parseFieldDescriptor (TX7 k).2.2.1 = some (tyX7 k) := by decide +kernel
abbrev cX7_init : ByteArray := prog_9_method_1_code
def yX7_init : MethodName := ⟨RX7, "<init>", "()V"⟩
abbrev cX7_addSign : ByteArray := prog_9_method_2_code
def yX7_addSign : MethodName := ⟨RX7, "addSign", "(I)V"⟩
abbrev cX7_beginReading : ByteArray := prog_9_method_3_code
def yX7_beginReading : MethodName := ⟨RX7, "beginReading", "()V"⟩
abbrev cX7_advance : ByteArray := prog_9_method_4_code
def yX7_advance : MethodName := ⟨RX7, "advance", "()V"⟩
abbrev cX7_readWord : ByteArray := prog_9_method_5_code
def yX7_readWord : MethodName := ⟨RX7, "readWord", "()V"⟩
abbrev cX7_readNumber : ByteArray := prog_9_method_6_code
def yX7_readNumber : MethodName := ⟨RX7, "readNumber", "()V"⟩
abbrev cX7_fail : ByteArray := prog_9_method_7_code
def yX7_fail : MethodName := ⟨RX7, "fail", "(I)Z"⟩
abbrev cX7_isName : ByteArray := prog_9_method_8_code
def yX7_isName : MethodName := ⟨RX7, "isName", "()Z"⟩
abbrev cX7_isSign : ByteArray := prog_9_method_9_code
def yX7_isSign : MethodName := ⟨RX7, "isSign", "(I)Z"⟩
abbrev cX7_takeSign : ByteArray := prog_9_method_10_code
def yX7_takeSign : MethodName := ⟨RX7, "takeSign", "(I)Z"⟩
abbrev cX7_takeWord : ByteArray := prog_9_method_11_code
def yX7_takeWord : MethodName := ⟨RX7, "takeWord", "(LMangleTown$Word;)Z"⟩
abbrev cX7_takeNumber : ByteArray := prog_9_method_12_code
def yX7_takeNumber : MethodName := ⟨RX7, "takeNumber", "(II)Z"⟩
def RX8 : String := "MangleTown$Town"
def TX8 : u_T := fun k => match k with
  | 0 => ("MangleTown$Town", "names", "[J", true)
  | 1 => ("MangleTown$Town", "kind", "[I", true)
  | 2 => ("MangleTown$Town", "thick", "[I", true)
  | 3 => ("MangleTown$Town", "wet", "[I", true)
  | 4 => ("MangleTown$Town", "ink", "[I", true)
  | 5 => ("MangleTown$Town", "shunnedSet", "[I", true)
  | 6 => ("MangleTown$Town", "rains", "[I", true)
  | 7 => ("MangleTown$Town", "presses", "LMangleTown$Law;", true)
  | 8 => ("MangleTown$Town", "prints", "LMangleTown$Law;", true)
  | 9 => ("MangleTown$Town", "houses", "I", false)
  | 10 => ("MangleTown$Town", "gap", "I", false)
  | 11 => ("MangleTown$Town", "price", "I", false)
  | 12 => ("MangleTown$Town", "rainsTold", "I", false)
  | _ => ("MangleTown$Town", "onceTold", "I", false)
def tyX8 : Nat → FieldType := fun k => match k with
  | 0 => .array .long
  | 1 => .array .int
  | 2 => .array .int
  | 3 => .array .int
  | 4 => .array .int
  | 5 => .array .int
  | 6 => .array .int
  | 7 => .object "MangleTown$Law"
  | 8 => .object "MangleTown$Law"
  | 9 => .int
  | 10 => .int
  | 11 => .int
  | 12 => .int
  | _ => .int
abbrev wsX80 : List Cond := u_ws RX8 TX8 14
theorem nmX8 : ∀ a, a < 14 → ∀ b, b < 14 → a ≠ b → (TX8 a).2.1 ≠ (TX8 b).2.1 := by decide +kernel
theorem tyX8_ok : ∀ k, k < 14 → parseFieldDescriptor (TX8 k).2.2.1 = some (tyX8 k) := by decide +kernel
abbrev cX8_init : ByteArray := prog_10_method_1_code
def yX8_init : MethodName := ⟨RX8, "<init>", "()V"⟩
abbrev cX8_forgetAll : ByteArray := prog_10_method_2_code
def yX8_forgetAll : MethodName := ⟨RX8, "forgetAll", "()V"⟩
abbrev cX8_isCat : ByteArray := prog_10_method_3_code
def yX8_isCat : MethodName := ⟨RX8, "isCat", "(I)Z"⟩
abbrev cX8_doesShun : ByteArray := prog_10_method_4_code
def yX8_doesShun : MethodName := ⟨RX8, "doesShun", "(II)Z"⟩
abbrev cX8_numberOf : ByteArray := prog_10_method_5_code
def yX8_numberOf : MethodName := ⟨RX8, "numberOf", "(J)I"⟩
abbrev cX8_rainOf : ByteArray := prog_10_method_6_code
def yX8_rainOf : MethodName := ⟨RX8, "rainOf", "(I)I"⟩
abbrev cX8_pressedOut : ByteArray := prog_10_method_7_code
def yX8_pressedOut : MethodName := ⟨RX8, "pressedOut", "(LMangleTown$State;I)I"⟩
abbrev cX8_printedOn : ByteArray := prog_10_method_8_code
def yX8_printedOn : MethodName := ⟨RX8, "printedOn", "(LMangleTown$State;II)I"⟩
abbrev cX8_readFrom : ByteArray := prog_10_method_9_code
def yX8_readFrom : MethodName := ⟨RX8, "readFrom", "(LMangleTown$Tape;)Z"⟩
abbrev cX8_readLine : ByteArray := prog_10_method_10_code
def yX8_readLine : MethodName := ⟨RX8, "readLine", "(LMangleTown$Tape;)Z"⟩
abbrev cX8_takeOnce : ByteArray := prog_10_method_11_code
def yX8_takeOnce : MethodName := ⟨RX8, "takeOnce", "(LMangleTown$Tape;I)Z"⟩
abbrev cX8_readHouse : ByteArray := prog_10_method_12_code
def yX8_readHouse : MethodName := ⟨RX8, "readHouse", "(LMangleTown$Tape;)Z"⟩
abbrev cX8_kindOf : ByteArray := prog_10_method_13_code
def yX8_kindOf : MethodName := ⟨RX8, "kindOf", "(LMangleTown$Word;)I"⟩
abbrev cX8_readMeasure : ByteArray := prog_10_method_14_code
def yX8_readMeasure : MethodName := ⟨RX8, "readMeasure", "(LMangleTown$Tape;LMangleTown$Word;[III)Z"⟩
abbrev cX8_readShuns : ByteArray := prog_10_method_15_code
def yX8_readShuns : MethodName := ⟨RX8, "readShuns", "(LMangleTown$Tape;)Z"⟩
abbrev cX8_houseNamed : ByteArray := prog_10_method_16_code
def yX8_houseNamed : MethodName := ⟨RX8, "houseNamed", "(LMangleTown$Tape;)I"⟩
abbrev cX8_readGap : ByteArray := prog_10_method_17_code
def yX8_readGap : MethodName := ⟨RX8, "readGap", "(LMangleTown$Tape;)Z"⟩
abbrev cX8_readPrice : ByteArray := prog_10_method_18_code
def yX8_readPrice : MethodName := ⟨RX8, "readPrice", "(LMangleTown$Tape;)Z"⟩
abbrev cX8_readRains : ByteArray := prog_10_method_19_code
def yX8_readRains : MethodName := ⟨RX8, "readRains", "(LMangleTown$Tape;)Z"⟩
def RX9 : String := "MangleTown$Word"
def TX9 : u_T := fun k => match k with
  | _ => ("", "", "", false)
def tyX9 : Nat → FieldType := fun k => match k with
  | _ => .int
abbrev wsX90 : List Cond := u_ws RX9 TX9 0
theorem nmX9 : ∀ a, a < 0 → ∀ b, b < 0 → a ≠ b → (TX9 a).2.1 ≠ (TX9 b).2.1 := by decide +kernel
theorem tyX9_ok : ∀ k, k < 0 → parseFieldDescriptor (TX9 k).2.2.1 = some (tyX9 k) := by decide +kernel
abbrev cX9_spelled : ByteArray := prog_11_method_4_code
def yX9_spelled : MethodName := ⟨RX9, "spelled", "(J)LMangleTown$Word;"⟩
def RX10 : String := "MangleTown$Years"
def TX10 : u_T := fun k => match k with
  | 0 => ("MangleTown$Years", "deed", "[I", true)
  | 1 => ("MangleTown$Years", "house", "[I", true)
  | 2 => ("MangleTown$Years", "number", "[I", true)
  | _ => ("MangleTown$Years", "lines", "I", false)
def tyX10 : Nat → FieldType := fun k => match k with
  | 0 => .array .int
  | 1 => .array .int
  | 2 => .array .int
  | _ => .int
abbrev wsX100 : List Cond := u_ws RX10 TX10 4
theorem nmX10 : ∀ a, a < 4 → ∀ b, b < 4 → a ≠ b → (TX10 a).2.1 ≠ (TX10 b).2.1 := by decide +kernel
theorem tyX10_ok : ∀ k, k < 4 → parseFieldDescriptor (TX10 k).2.2.1 = some (tyX10 k) := by decide +kernel
abbrev cX10_init : ByteArray := prog_12_method_1_code
def yX10_init : MethodName := ⟨RX10, "<init>", "()V"⟩
abbrev cX10_copyFrom : ByteArray := prog_12_method_2_code
def yX10_copyFrom : MethodName := ⟨RX10, "copyFrom", "(LMangleTown$Years;)V"⟩
abbrev cX10_readFrom : ByteArray := prog_12_method_3_code
def yX10_readFrom : MethodName := ⟨RX10, "readFrom", "(LMangleTown$Tape;LMangleTown$Town;)Z"⟩
abbrev cX10_readLine : ByteArray := prog_12_method_4_code
def yX10_readLine : MethodName := ⟨RX10, "readLine", "(LMangleTown$Tape;LMangleTown$Town;)Z"⟩
abbrev cX10_deedOf : ByteArray := prog_12_method_5_code
def yX10_deedOf : MethodName := ⟨RX10, "deedOf", "(LMangleTown$Word;)I"⟩
abbrev cX10_readHouse : ByteArray := prog_12_method_6_code
def yX10_readHouse : MethodName := ⟨RX10, "readHouse", "(LMangleTown$Tape;LMangleTown$Town;)Z"⟩
abbrev cX10_readNumber : ByteArray := prog_12_method_7_code
def yX10_readNumber : MethodName := ⟨RX10, "readNumber", "(LMangleTown$Tape;II)Z"⟩
def RX11 : String := "MangleTown"
def TX11 : u_T := fun k => match k with
  | 0 => ("MangleTown", "tape", "LMangleTown$Tape;", true)
  | 1 => ("MangleTown", "told", "LMangleTown$Town;", false)
  | 2 => ("MangleTown", "draft", "LMangleTown$Town;", false)
  | 3 => ("MangleTown", "draftYears", "LMangleTown$Years;", true)
  | 4 => ("MangleTown", "start", "LMangleTown$State;", true)
  | 5 => ("MangleTown", "now", "LMangleTown$Standing;", true)
  | 6 => ("MangleTown", "trial", "LMangleTown$State;", true)
  | 7 => ("MangleTown", "marks", "[LMangleTown$Standing;", true)
  | 8 => ("MangleTown", "laid", "[Z", true)
  | 9 => ("MangleTown", "past", "[LMangleTown$State;", true)
  | 10 => ("MangleTown", "pastNext", "I", false)
  | 11 => ("MangleTown", "pastKept", "I", false)
  | 12 => ("MangleTown", "mangle", "LMangleTown$Mangle;", true)
  | 13 => ("MangleTown", "rows", "LMangleTown$Rows;", true)
  | 14 => ("MangleTown", "secrets", "LMangleTown$Secrets;", true)
  | _ => ("MangleTown", "weights", "[J", true)
def tyX11 : Nat → FieldType := fun k => match k with
  | 0 => .object "MangleTown$Tape"
  | 1 => .object "MangleTown$Town"
  | 2 => .object "MangleTown$Town"
  | 3 => .object "MangleTown$Years"
  | 4 => .object "MangleTown$State"
  | 5 => .object "MangleTown$Standing"
  | 6 => .object "MangleTown$State"
  | 7 => .array (.object "MangleTown$Standing")
  | 8 => .array .boolean
  | 9 => .array (.object "MangleTown$State")
  | 10 => .int
  | 11 => .int
  | 12 => .object "MangleTown$Mangle"
  | 13 => .object "MangleTown$Rows"
  | 14 => .object "MangleTown$Secrets"
  | _ => .array .long
abbrev wsX110 : List Cond := u_ws RX11 TX11 16
theorem nmX11 : ∀ a, a < 16 → ∀ b, b < 16 → a ≠ b → (TX11 a).2.1 ≠ (TX11 b).2.1 := by decide +kernel
theorem tyX11_ok : ∀ k, k < 16 → parseFieldDescriptor (TX11 k).2.2.1 = some (tyX11 k) := by decide +kernel
abbrev cX11_init : ByteArray := prog_1_method_1_code
def yX11_init : MethodName := ⟨RX11, "<init>", "()V"⟩
abbrev cX11_feed : ByteArray := prog_1_method_2_code
def yX11_feed : MethodName := ⟨RX11, "feed", "(JJJ)I"⟩
abbrev cX11_town : ByteArray := prog_1_method_3_code
def yX11_town : MethodName := ⟨RX11, "town", "()I"⟩
abbrev cX11_years : ByteArray := prog_1_method_4_code
def yX11_years : MethodName := ⟨RX11, "years", "()I"⟩
abbrev cX11_house : ByteArray := prog_1_method_5_code
def yX11_house : MethodName := ⟨RX11, "house", "(II)I"⟩
abbrev cX11_order : ByteArray := prog_1_method_6_code
def yX11_order : MethodName := ⟨RX11, "order", "(I)I"⟩
abbrev cX11_ahead : ByteArray := prog_1_method_7_code
def yX11_ahead : MethodName := ⟨RX11, "ahead", "(I)I"⟩
abbrev cX11_pressed : ByteArray := prog_1_method_8_code
def yX11_pressed : MethodName := ⟨RX11, "pressed", "(I)I"⟩
abbrev cX11_blot : ByteArray := prog_1_method_9_code
def yX11_blot : MethodName := ⟨RX11, "blot", "(II)I"⟩
abbrev cX11_put : ByteArray := prog_1_method_10_code
def yX11_put : MethodName := ⟨RX11, "put", "(II)Z"⟩
abbrev cX11_road : ByteArray := prog_1_method_11_code
def yX11_road : MethodName := ⟨RX11, "road", "(I)Z"⟩
abbrev cX11_run : ByteArray := prog_1_method_12_code
def yX11_run : MethodName := ⟨RX11, "run", "()I"⟩
abbrev cX11_sell : ByteArray := prog_1_method_13_code
def yX11_sell : MethodName := ⟨RX11, "sell", "(I)I"⟩
abbrev cX11_undo : ByteArray := prog_1_method_14_code
def yX11_undo : MethodName := ⟨RX11, "undo", "()Z"⟩
abbrev cX11_judged : ByteArray := prog_1_method_15_code
def yX11_judged : MethodName := ⟨RX11, "judged", "(I)I"⟩
abbrev cX11_shunned : ByteArray := prog_1_method_16_code
def yX11_shunned : MethodName := ⟨RX11, "shunned", "()I"⟩
abbrev cX11_best : ByteArray := prog_1_method_17_code
def yX11_best : MethodName := ⟨RX11, "best", "(I)I"⟩
abbrev cX11_around : ByteArray := prog_1_method_18_code
def yX11_around : MethodName := ⟨RX11, "around", "()I"⟩
abbrev cX11_till : ByteArray := prog_1_method_19_code
def yX11_till : MethodName := ⟨RX11, "till", "(I)I"⟩
abbrev cX11_dry : ByteArray := prog_1_method_20_code
def yX11_dry : MethodName := ⟨RX11, "dry", "(I)I"⟩
abbrev cX11_hear : ByteArray := prog_1_method_21_code
def yX11_hear : MethodName := ⟨RX11, "hear", "(I)Z"⟩
abbrev cX11_sets : ByteArray := prog_1_method_22_code
def yX11_sets : MethodName := ⟨RX11, "sets", "(I)I"⟩
abbrev cX11_look : ByteArray := prog_1_method_23_code
def yX11_look : MethodName := ⟨RX11, "look", "()I"⟩
abbrev cX11_see : ByteArray := prog_1_method_24_code
def yX11_see : MethodName := ⟨RX11, "see", "(II)Z"⟩
abbrev cX11_orders : ByteArray := prog_1_method_25_code
def yX11_orders : MethodName := ⟨RX11, "orders", "()I"⟩
abbrev cX11_first : ByteArray := prog_1_method_26_code
def yX11_first : MethodName := ⟨RX11, "first", "(I)I"⟩
abbrev cX11_ask : ByteArray := prog_1_method_27_code
def yX11_ask : MethodName := ⟨RX11, "ask", "()I"⟩
abbrev cX11_share : ByteArray := prog_1_method_28_code
def yX11_share : MethodName := ⟨RX11, "share", "(I)I"⟩
abbrev cX11_pin : ByteArray := prog_1_method_29_code
def yX11_pin : MethodName := ⟨RX11, "pin", "(III)I"⟩
abbrev cX11_rests : ByteArray := prog_1_method_30_code
def yX11_rests : MethodName := ⟨RX11, "rests", "(III)I"⟩
abbrev cX11_decades : ByteArray := prog_1_method_31_code
def yX11_decades : MethodName := ⟨RX11, "decades", "(III)I"⟩
abbrev cX11_mark : ByteArray := prog_1_method_32_code
def yX11_mark : MethodName := ⟨RX11, "mark", "(IZ)Z"⟩
abbrev cX11_count : ByteArray := prog_1_method_33_code
def yX11_count : MethodName := ⟨RX11, "count", "(I)I"⟩
abbrev cX11_feedBytes : ByteArray := prog_1_method_34_code
def yX11_feedBytes : MethodName := ⟨RX11, "feedBytes", "(J)V"⟩
abbrev cX11_isHouse : ByteArray := prog_1_method_35_code
def yX11_isHouse : MethodName := ⟨RX11, "isHouse", "(I)Z"⟩
abbrev cX11_isGoing : ByteArray := prog_1_method_36_code
def yX11_isGoing : MethodName := ⟨RX11, "isGoing", "(I)Z"⟩
abbrev cX11_remember : ByteArray := prog_1_method_37_code
def yX11_remember : MethodName := ⟨RX11, "remember", "()V"⟩
abbrev cX11_goingAsThick : ByteArray := prog_1_method_38_code
def yX11_goingAsThick : MethodName := ⟨RX11, "goingAsThick", "(I)I"⟩
abbrev cX11_allGoingThickness : ByteArray := prog_1_method_39_code
def yX11_allGoingThickness : MethodName := ⟨RX11, "allGoingThickness", "()I"⟩
abbrev cX11_weighHouses : ByteArray := prog_1_method_40_code
def yX11_weighHouses : MethodName := ⟨RX11, "weighHouses", "()V"⟩
abbrev cX11_likeliestFind : ByteArray := prog_1_method_41_code
def yX11_likeliestFind : MethodName := ⟨RX11, "likeliestFind", "(I)I"⟩
abbrev cX11_millionths : ByteArray := prog_1_method_42_code
def yX11_millionths : MethodName := ⟨RX11, "millionths", "(JI)I"⟩
abbrev cX11_isBid : ByteArray := prog_1_method_43_code
def yX11_isBid : MethodName := ⟨RX11, "isBid", "(I)Z"⟩
abbrev cX11_isRest : ByteArray := prog_1_method_44_code
def yX11_isRest : MethodName := ⟨RX11, "isRest", "(IIII)Z"⟩
abbrev cX11_gainOfFirst : ByteArray := prog_1_method_45_code
def yX11_gainOfFirst : MethodName := ⟨RX11, "gainOfFirst", "(III)I"⟩
abbrev cX11_gainOfOther : ByteArray := prog_1_method_46_code
def yX11_gainOfOther : MethodName := ⟨RX11, "gainOfOther", "(III)I"⟩
def RX12 : String := "MangleTownModel"
def TX12 : u_T := fun k => match k with
  | 0 => ("MangleTownModel", "thrown", "I", false)
  | 1 => ("MangleTownModel", "taped", "I", false)
  | 2 => ("MangleTownModel", "tape", "[I", true)
  | 3 => ("MangleTownModel", "size", "I", false)
  | 4 => ("MangleTownModel", "place", "I", false)
  | 5 => ("MangleTownModel", "begin", "I", false)
  | 6 => ("MangleTownModel", "token", "I", false)
  | 7 => ("MangleTownModel", "word", "J", false)
  | 8 => ("MangleTownModel", "told", "I", false)
  | 9 => ("MangleTownModel", "wrong", "I", false)
  | 10 => ("MangleTownModel", "town", "[I", true)
  | 11 => ("MangleTownModel", "houseName", "[J", true)
  | 12 => ("MangleTownModel", "kind", "[I", true)
  | 13 => ("MangleTownModel", "thickTold", "[I", true)
  | 14 => ("MangleTownModel", "wetTold", "[I", true)
  | 15 => ("MangleTownModel", "ink", "[I", true)
  | 16 => ("MangleTownModel", "shuns", "[I", true)
  | 17 => ("MangleTownModel", "rain", "[I", true)
  | 18 => ("MangleTownModel", "lineFrom", "[I", true)
  | 19 => ("MangleTownModel", "lineTo", "[I", true)
  | 20 => ("MangleTownModel", "codes", "[I", true)
  | 21 => ("MangleTownModel", "code", "I", false)
  | 22 => ("MangleTownModel", "lawLine", "I", false)
  | 23 => ("MangleTownModel", "toldLines", "I", false)
  | 24 => ("MangleTownModel", "opened", "[I", true)
  | 25 => ("MangleTownModel", "compared", "[Z", true)
  | 26 => ("MangleTownModel", "kept", "[I", true)
  | 27 => ("MangleTownModel", "keptBy", "[I", true)
  | 28 => ("MangleTownModel", "ahead", "[I", true)
  | 29 => ("MangleTownModel", "against", "[I", true)
  | 30 => ("MangleTownModel", "sum", "[I", true)
  | 31 => ("MangleTownModel", "sumBy", "[I", true)
  | 32 => ("MangleTownModel", "term", "[I", true)
  | 33 => ("MangleTownModel", "termBy", "[I", true)
  | 34 => ("MangleTownModel", "byNot", "[I", true)
  | 35 => ("MangleTownModel", "valueOf", "[I", true)
  | 36 => ("MangleTownModel", "given", "I", false)
  | 37 => ("MangleTownModel", "lines", "[I", true)
  | 38 => ("MangleTownModel", "lineWhat", "[I", true)
  | 39 => ("MangleTownModel", "lineA", "[I", true)
  | 40 => ("MangleTownModel", "lineN", "[I", true)
  | 41 => ("MangleTownModel", "heard", "[I", true)
  | 42 => ("MangleTownModel", "seens", "[I", true)
  | 43 => ("MangleTownModel", "seenOne", "[I", true)
  | 44 => ("MangleTownModel", "seenTwo", "[I", true)
  | 45 => ("MangleTownModel", "s", "[I", true)
  | 46 => ("MangleTownModel", "aside", "[I", true)
  | 47 => ("MangleTownModel", "marked", "[I", true)
  | 48 => ("MangleTownModel", "undone", "[I", true)
  | 49 => ("MangleTownModel", "isLaid", "[Z", true)
  | 50 => ("MangleTownModel", "done", "I", false)
  | 51 => ("MangleTownModel", "printCame", "I", false)
  | 52 => ("MangleTownModel", "row", "[I", true)
  | 53 => ("MangleTownModel", "bestRow", "[I", true)
  | 54 => ("MangleTownModel", "bestPrint", "I", false)
  | 55 => ("MangleTownModel", "isShunOk", "Z", false)
  | 56 => ("MangleTownModel", "must", "[I", true)
  | 57 => ("MangleTownModel", "waysTo", "[I", true)
  | 58 => ("MangleTownModel", "waysFrom", "[I", true)
  | 59 => ("MangleTownModel", "isAhead", "[I", true)
  | 60 => ("MangleTownModel", "weight", "[J", true)
  | _ => ("MangleTownModel", "g", "J", false)
def tyX12 : Nat → FieldType := fun k => match k with
  | 0 => .int
  | 1 => .int
  | 2 => .array .int
  | 3 => .int
  | 4 => .int
  | 5 => .int
  | 6 => .int
  | 7 => .long
  | 8 => .int
  | 9 => .int
  | 10 => .array .int
  | 11 => .array .long
  | 12 => .array .int
  | 13 => .array .int
  | 14 => .array .int
  | 15 => .array .int
  | 16 => .array .int
  | 17 => .array .int
  | 18 => .array .int
  | 19 => .array .int
  | 20 => .array .int
  | 21 => .int
  | 22 => .int
  | 23 => .int
  | 24 => .array .int
  | 25 => .array .boolean
  | 26 => .array .int
  | 27 => .array .int
  | 28 => .array .int
  | 29 => .array .int
  | 30 => .array .int
  | 31 => .array .int
  | 32 => .array .int
  | 33 => .array .int
  | 34 => .array .int
  | 35 => .array .int
  | 36 => .int
  | 37 => .array .int
  | 38 => .array .int
  | 39 => .array .int
  | 40 => .array .int
  | 41 => .array .int
  | 42 => .array .int
  | 43 => .array .int
  | 44 => .array .int
  | 45 => .array .int
  | 46 => .array .int
  | 47 => .array .int
  | 48 => .array .int
  | 49 => .array .boolean
  | 50 => .int
  | 51 => .int
  | 52 => .array .int
  | 53 => .array .int
  | 54 => .int
  | 55 => .boolean
  | 56 => .array .int
  | 57 => .array .int
  | 58 => .array .int
  | 59 => .array .int
  | 60 => .array .long
  | _ => .long
abbrev wsX120 : List Cond := u_ws RX12 TX12 62
theorem nmX12 : ∀ a, a < 62 → ∀ b, b < 62 → a ≠ b → (TX12 a).2.1 ≠ (TX12 b).2.1 := by decide +kernel
theorem tyX12_ok : ∀ k, k < 62 → parseFieldDescriptor (TX12 k).2.2.1 = some (tyX12 k) := by decide +kernel
abbrev cX12_init : ByteArray := prog_14_method_1_code
def yX12_init : MethodName := ⟨RX12, "<init>", "()V"⟩
abbrev cX12_thrown : ByteArray := prog_14_method_2_code
def yX12_thrown : MethodName := ⟨RX12, "thrown", "()I"⟩
abbrev cX12_within : ByteArray := prog_14_method_3_code
def yX12_within : MethodName := ⟨RX12, "within", "(III)Z"⟩
abbrev cX12_between : ByteArray := prog_14_method_4_code
def yX12_between : MethodName := ⟨RX12, "between", "(III)I"⟩
abbrev cX12_bits : ByteArray := prog_14_method_5_code
def yX12_bits : MethodName := ⟨RX12, "bits", "(I)I"⟩
abbrev cX12_feed : ByteArray := prog_14_method_6_code
def yX12_feed : MethodName := ⟨RX12, "feed", "(JJJ)I"⟩
abbrev cX12_signAt : ByteArray := prog_14_method_7_code
def yX12_signAt : MethodName := ⟨RX12, "signAt", "(I)I"⟩
abbrev cX12_nextToken : ByteArray := prog_14_method_8_code
def yX12_nextToken : MethodName := ⟨RX12, "nextToken", "()V"⟩
abbrev cX12_isWord : ByteArray := prog_14_method_9_code
def yX12_isWord : MethodName := ⟨RX12, "isWord", "(J)Z"⟩
abbrev cX12_isSign : ByteArray := prog_14_method_10_code
def yX12_isSign : MethodName := ⟨RX12, "isSign", "(I)Z"⟩
abbrev cX12_fails : ByteArray := prog_14_method_11_code
def yX12_fails : MethodName := ⟨RX12, "fails", "(I)Z"⟩
abbrev cX12_puts : ByteArray := prog_14_method_12_code
def yX12_puts : MethodName := ⟨RX12, "puts", "(I)V"⟩
abbrev cX12_fact : ByteArray := prog_14_method_13_code
def yX12_fact : MethodName := ⟨RX12, "fact", "()I"⟩
abbrev cX12_reads : ByteArray := prog_14_method_14_code
def yX12_reads : MethodName := ⟨RX12, "reads", "()Z"⟩
abbrev cX12_opens : ByteArray := prog_14_method_15_code
def yX12_opens : MethodName := ⟨RX12, "opens", "(I)V"⟩
abbrev cX12_sums : ByteArray := prog_14_method_16_code
def yX12_sums : MethodName := ⟨RX12, "sums", "(I)V"⟩
abbrev cX12_tests : ByteArray := prog_14_method_17_code
def yX12_tests : MethodName := ⟨RX12, "tests", "(I)V"⟩
abbrev cX12_worked : ByteArray := prog_14_method_18_code
def yX12_worked : MethodName := ⟨RX12, "worked", "(I)I"⟩
abbrev cX12_isKept : ByteArray := prog_14_method_19_code
def yX12_isKept : MethodName := ⟨RX12, "isKept", "()Z"⟩
abbrev cX12_houseNamed : ByteArray := prog_14_method_20_code
def yX12_houseNamed : MethodName := ⟨RX12, "houseNamed", "(I)I"⟩
abbrev cX12_needsNumber : ByteArray := prog_14_method_21_code
def yX12_needsNumber : MethodName := ⟨RX12, "needsNumber", "(II)Z"⟩
abbrev cX12_needsBoth : ByteArray := prog_14_method_22_code
def yX12_needsBoth : MethodName := ⟨RX12, "needsBoth", "(JII)Z"⟩
abbrev cX12_closes : ByteArray := prog_14_method_23_code
def yX12_closes : MethodName := ⟨RX12, "closes", "()Z"⟩
abbrev cX12_needsHouse : ByteArray := prog_14_method_24_code
def yX12_needsHouse : MethodName := ⟨RX12, "needsHouse", "(I)Z"⟩
abbrev cX12_isTwice : ByteArray := prog_14_method_25_code
def yX12_isTwice : MethodName := ⟨RX12, "isTwice", "(I)Z"⟩
abbrev cX12_readsHouse : ByteArray := prog_14_method_26_code
def yX12_readsHouse : MethodName := ⟨RX12, "readsHouse", "()Z"⟩
abbrev cX12_readsShuns : ByteArray := prog_14_method_27_code
def yX12_readsShuns : MethodName := ⟨RX12, "readsShuns", "()Z"⟩
abbrev cX12_readsOne : ByteArray := prog_14_method_28_code
def yX12_readsOne : MethodName := ⟨RX12, "readsOne", "(III)Z"⟩
abbrev cX12_readsRains : ByteArray := prog_14_method_29_code
def yX12_readsRains : MethodName := ⟨RX12, "readsRains", "()Z"⟩
abbrev cX12_readsLaw : ByteArray := prog_14_method_30_code
def yX12_readsLaw : MethodName := ⟨RX12, "readsLaw", "(I)Z"⟩
abbrev cX12_begins : ByteArray := prog_14_method_31_code
def yX12_begins : MethodName := ⟨RX12, "begins", "()V"⟩
abbrev cX12_readsAll : ByteArray := prog_14_method_32_code
def yX12_readsAll : MethodName := ⟨RX12, "readsAll", "()Z"⟩
abbrev cX12_shifts : ByteArray := prog_14_method_33_code
def yX12_shifts : MethodName := ⟨RX12, "shifts", "([II)V"⟩
abbrev cX12_lays : ByteArray := prog_14_method_34_code
def yX12_lays : MethodName := ⟨RX12, "lays", "()V"⟩
abbrev cX12_copies : ByteArray := prog_14_method_35_code
def yX12_copies : MethodName := ⟨RX12, "copies", "([II[II)V"⟩
abbrev cX12_readsLine : ByteArray := prog_14_method_36_code
def yX12_readsLine : MethodName := ⟨RX12, "readsLine", "()Z"⟩
abbrev cX12_laysLines : ByteArray := prog_14_method_37_code
def yX12_laysLines : MethodName := ⟨RX12, "laysLines", "(II)V"⟩
abbrev cX12_laysSeen : ByteArray := prog_14_method_38_code
def yX12_laysSeen : MethodName := ⟨RX12, "laysSeen", "(II)V"⟩
abbrev cX12_fresh : ByteArray := prog_14_method_39_code
def yX12_fresh : MethodName := ⟨RX12, "fresh", "()V"⟩
abbrev cX12_town : ByteArray := prog_14_method_40_code
def yX12_town : MethodName := ⟨RX12, "town", "()I"⟩
abbrev cX12_years : ByteArray := prog_14_method_41_code
def yX12_years : MethodName := ⟨RX12, "years", "()I"⟩
abbrev cX12_isHouse : ByteArray := prog_14_method_42_code
def yX12_isHouse : MethodName := ⟨RX12, "isHouse", "(I)Z"⟩
abbrev cX12_isGoing : ByteArray := prog_14_method_43_code
def yX12_isGoing : MethodName := ⟨RX12, "isGoing", "(I)Z"⟩
abbrev cX12_going : ByteArray := prog_14_method_44_code
def yX12_going : MethodName := ⟨RX12, "going", "()I"⟩
abbrev cX12_pressedOf : ByteArray := prog_14_method_45_code
def yX12_pressedOf : MethodName := ⟨RX12, "pressedOf", "(I)I"⟩
abbrev cX12_printedBy : ByteArray := prog_14_method_46_code
def yX12_printedBy : MethodName := ⟨RX12, "printedBy", "(II)I"⟩
abbrev cX12_aheadOf : ByteArray := prog_14_method_47_code
def yX12_aheadOf : MethodName := ⟨RX12, "aheadOf", "(I)I"⟩
abbrev cX12_placeOf : ByteArray := prog_14_method_48_code
def yX12_placeOf : MethodName := ⟨RX12, "placeOf", "(I)I"⟩
abbrev cX12_together : ByteArray := prog_14_method_49_code
def yX12_together : MethodName := ⟨RX12, "together", "(I)I"⟩
abbrev cX12_rainNow : ByteArray := prog_14_method_50_code
def yX12_rainNow : MethodName := ⟨RX12, "rainNow", "()I"⟩
abbrev cX12_doesShun : ByteArray := prog_14_method_51_code
def yX12_doesShun : MethodName := ⟨RX12, "doesShun", "(II)Z"⟩
abbrev cX12_shunnedNow : ByteArray := prog_14_method_52_code
def yX12_shunnedNow : MethodName := ⟨RX12, "shunnedNow", "()I"⟩
abbrev cX12_goesThrough : ByteArray := prog_14_method_53_code
def yX12_goesThrough : MethodName := ⟨RX12, "goesThrough", "(II)I"⟩
abbrev cX12_runs : ByteArray := prog_14_method_54_code
def yX12_runs : MethodName := ⟨RX12, "runs", "()I"⟩
abbrev cX12_laysAt : ByteArray := prog_14_method_55_code
def yX12_laysAt : MethodName := ⟨RX12, "laysAt", "(II)V"⟩
abbrev cX12_house : ByteArray := prog_14_method_56_code
def yX12_house : MethodName := ⟨RX12, "house", "(II)I"⟩
abbrev cX12_order : ByteArray := prog_14_method_57_code
def yX12_order : MethodName := ⟨RX12, "order", "(I)I"⟩
abbrev cX12_ahead : ByteArray := prog_14_method_58_code
def yX12_ahead : MethodName := ⟨RX12, "ahead", "(I)I"⟩
abbrev cX12_pressed : ByteArray := prog_14_method_59_code
def yX12_pressed : MethodName := ⟨RX12, "pressed", "(I)I"⟩
abbrev cX12_blot : ByteArray := prog_14_method_60_code
def yX12_blot : MethodName := ⟨RX12, "blot", "(II)I"⟩
abbrev cX12_keeps : ByteArray := prog_14_method_61_code
def yX12_keeps : MethodName := ⟨RX12, "keeps", "()V"⟩
abbrev cX12_put : ByteArray := prog_14_method_62_code
def yX12_put : MethodName := ⟨RX12, "put", "(II)Z"⟩
abbrev cX12_road : ByteArray := prog_14_method_63_code
def yX12_road : MethodName := ⟨RX12, "road", "(I)Z"⟩
abbrev cX12_run : ByteArray := prog_14_method_64_code
def yX12_run : MethodName := ⟨RX12, "run", "()I"⟩
abbrev cX12_sells : ByteArray := prog_14_method_65_code
def yX12_sells : MethodName := ⟨RX12, "sells", "(I)V"⟩
abbrev cX12_sell : ByteArray := prog_14_method_66_code
def yX12_sell : MethodName := ⟨RX12, "sell", "(I)I"⟩
abbrev cX12_undo : ByteArray := prog_14_method_67_code
def yX12_undo : MethodName := ⟨RX12, "undo", "()Z"⟩
abbrev cX12_goes : ByteArray := prog_14_method_68_code
def yX12_goes : MethodName := ⟨RX12, "goes", "(I)Z"⟩
abbrev cX12_judged : ByteArray := prog_14_method_69_code
def yX12_judged : MethodName := ⟨RX12, "judged", "(I)I"⟩
abbrev cX12_shunned : ByteArray := prog_14_method_70_code
def yX12_shunned : MethodName := ⟨RX12, "shunned", "()I"⟩
abbrev cX12_goesOn : ByteArray := prog_14_method_71_code
def yX12_goesOn : MethodName := ⟨RX12, "goesOn", "(IIII)V"⟩
abbrev cX12_best : ByteArray := prog_14_method_72_code
def yX12_best : MethodName := ⟨RX12, "best", "(I)I"⟩
abbrev cX12_canGo : ByteArray := prog_14_method_73_code
def yX12_canGo : MethodName := ⟨RX12, "canGo", "(II)Z"⟩
abbrev cX12_around : ByteArray := prog_14_method_74_code
def yX12_around : MethodName := ⟨RX12, "around", "()I"⟩
abbrev cX12_till : ByteArray := prog_14_method_75_code
def yX12_till : MethodName := ⟨RX12, "till", "(I)I"⟩
abbrev cX12_isSomeDry : ByteArray := prog_14_method_76_code
def yX12_isSomeDry : MethodName := ⟨RX12, "isSomeDry", "(I)Z"⟩
abbrev cX12_dry : ByteArray := prog_14_method_77_code
def yX12_dry : MethodName := ⟨RX12, "dry", "(I)I"⟩
abbrev cX12_hear : ByteArray := prog_14_method_78_code
def yX12_hear : MethodName := ⟨RX12, "hear", "(I)Z"⟩
abbrev cX12_isAsHeard : ByteArray := prog_14_method_79_code
def yX12_isAsHeard : MethodName := ⟨RX12, "isAsHeard", "(I)Z"⟩
abbrev cX12_sets : ByteArray := prog_14_method_80_code
def yX12_sets : MethodName := ⟨RX12, "sets", "(I)I"⟩
abbrev cX12_look : ByteArray := prog_14_method_81_code
def yX12_look : MethodName := ⟨RX12, "look", "()I"⟩
abbrev cX12_see : ByteArray := prog_14_method_82_code
def yX12_see : MethodName := ⟨RX12, "see", "(II)Z"⟩
abbrev cX12_mayFollow : ByteArray := prog_14_method_83_code
def yX12_mayFollow : MethodName := ⟨RX12, "mayFollow", "(II)Z"⟩
abbrev cX12_laysOrders : ByteArray := prog_14_method_84_code
def yX12_laysOrders : MethodName := ⟨RX12, "laysOrders", "()I"⟩
abbrev cX12_orders : ByteArray := prog_14_method_85_code
def yX12_orders : MethodName := ⟨RX12, "orders", "()I"⟩
abbrev cX12_first : ByteArray := prog_14_method_86_code
def yX12_first : MethodName := ⟨RX12, "first", "(I)I"⟩
abbrev cX12_laysAheads : ByteArray := prog_14_method_87_code
def yX12_laysAheads : MethodName := ⟨RX12, "laysAheads", "()V"⟩
abbrev cX12_ask : ByteArray := prog_14_method_88_code
def yX12_ask : MethodName := ⟨RX12, "ask", "()I"⟩
abbrev cX12_share : ByteArray := prog_14_method_89_code
def yX12_share : MethodName := ⟨RX12, "share", "(I)I"⟩
abbrev cX12_likeliest : ByteArray := prog_14_method_90_code
def yX12_likeliest : MethodName := ⟨RX12, "likeliest", "(I)I"⟩
abbrev cX12_pin : ByteArray := prog_14_method_91_code
def yX12_pin : MethodName := ⟨RX12, "pin", "(III)I"⟩
abbrev cX12_firstGets : ByteArray := prog_14_method_92_code
def yX12_firstGets : MethodName := ⟨RX12, "firstGets", "(III)I"⟩
abbrev cX12_otherGets : ByteArray := prog_14_method_93_code
def yX12_otherGets : MethodName := ⟨RX12, "otherGets", "(III)I"⟩
abbrev cX12_isRest : ByteArray := prog_14_method_94_code
def yX12_isRest : MethodName := ⟨RX12, "isRest", "(IIII)Z"⟩
abbrev cX12_rests : ByteArray := prog_14_method_95_code
def yX12_rests : MethodName := ⟨RX12, "rests", "(III)I"⟩
abbrev cX12_draws : ByteArray := prog_14_method_96_code
def yX12_draws : MethodName := ⟨RX12, "draws", "(I)I"⟩
abbrev cX12_livesAhead : ByteArray := prog_14_method_97_code
def yX12_livesAhead : MethodName := ⟨RX12, "livesAhead", "()V"⟩
abbrev cX12_decades : ByteArray := prog_14_method_98_code
def yX12_decades : MethodName := ⟨RX12, "decades", "(III)I"⟩
abbrev cX12_mark : ByteArray := prog_14_method_99_code
def yX12_mark : MethodName := ⟨RX12, "mark", "(IZ)Z"⟩
abbrev cX12_count : ByteArray := prog_14_method_100_code
def yX12_count : MethodName := ⟨RX12, "count", "(I)I"⟩
def RJx145de : String := "java/io/Serializable"
def RJx9f9b0 : String := "java/lang/CharSequence"
def RJ11 : String := "java/lang/Character"
abbrev cJ11_isValidCodePoint_9a6ad : ByteArray := prog_17_method_11_code
def yJ11_isValidCodePoint_9a6ad : MethodName := ⟨RJ11, "isValidCodePoint", "(I)Z"⟩
abbrev cJ11_highSurrogate_5068e : ByteArray := prog_17_method_28_code
def yJ11_highSurrogate_5068e : MethodName := ⟨RJ11, "highSurrogate", "(I)C"⟩
abbrev cJ11_lowSurrogate_5068e : ByteArray := prog_17_method_29_code
def yJ11_lowSurrogate_5068e : MethodName := ⟨RJ11, "lowSurrogate", "(I)C"⟩
def RJxb160c : String := "java/lang/Comparable"
def RJx29ce0 : String := "java/lang/Enum"
abbrev cJx29ce0_ordinal_8abf5 : ByteArray := prog_19_method_2_code
def yJx29ce0_ordinal_8abf5 : MethodName := ⟨RJx29ce0, "ordinal", "()I"⟩
def RJ6 : String := "java/lang/Integer"
abbrev cJ6_bitCount_0f7a4 : ByteArray := prog_21_method_49_code
def yJ6_bitCount_0f7a4 : MethodName := ⟨RJ6, "bitCount", "(I)I"⟩
def RJ9 : String := "java/lang/Math"
abbrev cJ9_floorMod_7cf53 : ByteArray := prog_22_method_50_code
def yJ9_floorMod_7cf53 : MethodName := ⟨RJ9, "floorMod", "(II)I"⟩
abbrev cJ9_max_7cf53 : ByteArray := prog_22_method_65_code
def yJ9_max_7cf53 : MethodName := ⟨RJ9, "max", "(II)I"⟩
abbrev cJ9_min_7cf53 : ByteArray := prog_22_method_69_code
def yJ9_min_7cf53 : MethodName := ⟨RJ9, "min", "(II)I"⟩
def RJ0 : String := "java/lang/String"
abbrev cJ0_length_8abf5 : ByteArray := prog_24_method_54_code
def yJ0_length_8abf5 : MethodName := ⟨RJ0, "length", "()I"⟩
abbrev cJ0_indexOf_0f7a4 : ByteArray := prog_24_method_79_code
def yJ0_indexOf_0f7a4 : MethodName := ⟨RJ0, "indexOf", "(I)I"⟩
abbrev cJ0_indexOf_7cf53 : ByteArray := prog_24_method_80_code
def yJ0_indexOf_7cf53 : MethodName := ⟨RJ0, "indexOf", "(II)I"⟩
abbrev cJ0_coder_7d493 : ByteArray := prog_24_method_152_code
def yJ0_coder_7d493 : MethodName := ⟨RJ0, "coder", "()B"⟩
abbrev cJ0_isLatin1_aae02 : ByteArray := prog_24_method_154_code
def yJ0_isLatin1_aae02 : MethodName := ⟨RJ0, "isLatin1", "()Z"⟩
abbrev cJ0_checkBoundsBeginEnd_23922 : ByteArray := prog_24_method_158_code
def yJ0_checkBoundsBeginEnd_23922 : MethodName := ⟨RJ0, "checkBoundsBeginEnd", "(III)V"⟩
def RJ1 : String := "java/lang/StringLatin1"
abbrev cJ1_canEncode_9a6ad : ByteArray := prog_25_method_4_code
def yJ1_canEncode_9a6ad : MethodName := ⟨RJ1, "canEncode", "(I)Z"⟩
abbrev cJ1_indexOf_4cfef : ByteArray := prog_25_method_22_code
def yJ1_indexOf_4cfef : MethodName := ⟨RJ1, "indexOf", "([BIII)I"⟩
abbrev cJ1_indexOfChar_4cfef : ByteArray := prog_25_method_23_code
def yJ1_indexOfChar_4cfef : MethodName := ⟨RJ1, "indexOfChar", "([BIII)I"⟩
def RJ2 : String := "java/lang/StringUTF16"
abbrev cJ2_getChar_3b067 : ByteArray := prog_26_method_5_code
def yJ2_getChar_3b067 : MethodName := ⟨RJ2, "getChar", "([BI)C"⟩
abbrev cJ2_length_9d52b : ByteArray := prog_26_method_6_code
def yJ2_length_9d52b : MethodName := ⟨RJ2, "length", "([B)I"⟩
abbrev cJ2_indexOf_4cfef : ByteArray := prog_26_method_40_code
def yJ2_indexOf_4cfef : MethodName := ⟨RJ2, "indexOf", "([BIII)I"⟩
abbrev cJ2_indexOfChar_4cfef : ByteArray := prog_26_method_47_code
def yJ2_indexOfChar_4cfef : MethodName := ⟨RJ2, "indexOfChar", "([BIII)I"⟩
abbrev cJ2_indexOfCharUnsafe_4cfef : ByteArray := prog_26_method_48_code
def yJ2_indexOfCharUnsafe_4cfef : MethodName := ⟨RJ2, "indexOfCharUnsafe", "([BIII)I"⟩
abbrev cJ2_indexOfSupplementary_4cfef : ByteArray := prog_26_method_49_code
def yJ2_indexOfSupplementary_4cfef : MethodName := ⟨RJ2, "indexOfSupplementary", "([BIII)I"⟩
abbrev cJ2_checkBoundsBeginEnd_d044e : ByteArray := prog_26_method_93_code
def yJ2_checkBoundsBeginEnd_d044e : MethodName := ⟨RJ2, "checkBoundsBeginEnd", "(II[B)V"⟩
def RJ10 : String := "java/lang/System"
def RJxfd54e : String := "java/lang/constant/Constable"
def RJx3cf43 : String := "java/lang/constant/ConstantDesc"
def RJ3 : String := "jdk/internal/util/Preconditions"
abbrev cJ3_checkFromToIndex_8c36e : ByteArray := prog_32_method_12_code
def yJ3_checkFromToIndex_8c36e : MethodName := ⟨RJ3, "checkFromToIndex", "(IIILjava/util/function/BiFunction;)I"⟩
def RL : String := "MangleTownLaw"
abbrev cL_pin : ByteArray := method_3_code
def yL_pin : MethodName := ⟨RL, "pin", "(LMangleTown;III[J)I"⟩
abbrev cL_rests : ByteArray := method_4_code
def yL_rests : MethodName := ⟨RL, "rests", "(LMangleTown;III[J)I"⟩
abbrev cL_law : ByteArray := code
def yL_law : MethodName := ⟨RL, "law", "([I)Z"⟩
abbrev vwCl : List vw_C := [(RX1, TX1, 4), (RX2, TX2, 7), (RX3, TX3, 7), (RX4, TX4, 5), (RX5, TX5, 6), (RX6, TX6, 9), (RX7, TX7, 12), (RX8, TX8, 14), (RX10, TX10, 4), (RX11, TX11, 16), (RX12, TX12, 62)]
def TB : List Cond := lw_tbl.filter goodWord
theorem inTB {w : Cond} (i : Nat) (h : lw_tbl[i]? = some w) (hg : goodWord w = true) : w ∈ TB := List.mem_filter.mpr ⟨List.mem_of_getElem? h, hg⟩
theorem TB_good {w : Cond} (h : w ∈ TB) : (w.onTables && w.keeps) = true ∨ ∃ ty, w = .arrayClass ty := good_of_word (List.mem_filter.mp h).2
