/-! printed: the tables' words, names, fields, words -/
/-- a private method of a class that the tables say can be made, by its rows of tables_1 -/
def lw_okq (q : MethodName × Nat) : Prop := (q.1.cls ≠ "java/lang/invoke/MethodHandle" ∧ q.1.cls ≠ "java/lang/invoke/VarHandle") ∧ Cond.instantiable q.1.cls q.2 ∈ tables_1 ∧ Cond.privateMethod q.1 ∈ tables_1 ∧ Cond.instanceMethod q.1 ∈ tables_1
theorem lw_p0 : lw_okq (⟨"EvenSpring", "found", "(I)I"⟩, 9) := ⟨⟨by decide +kernel, by decide +kernel⟩, List.mem_of_getElem? (i := 16) (by decide +kernel), List.mem_of_getElem? (i := 204) (by decide +kernel), List.mem_of_getElem? (i := 205) (by decide +kernel)⟩
theorem lw_p1 : lw_okq (⟨"EvenSpring$Calendar", "runsAsNew", "(I)I"⟩, 1) := ⟨⟨by decide +kernel, by decide +kernel⟩, List.mem_of_getElem? (i := 33) (by decide +kernel), List.mem_of_getElem? (i := 273) (by decide +kernel), List.mem_of_getElem? (i := 274) (by decide +kernel)⟩
theorem lw_p2 : lw_okq (⟨"EvenSpring$Calendar", "length", "()I"⟩, 1) := ⟨⟨by decide +kernel, by decide +kernel⟩, List.mem_of_getElem? (i := 33) (by decide +kernel), List.mem_of_getElem? (i := 277) (by decide +kernel), List.mem_of_getElem? (i := 278) (by decide +kernel)⟩
theorem lw_p3 : lw_okq (⟨"EvenSpring$Spring", "drawJug", "(Z)V"⟩, 9) := ⟨⟨by decide +kernel, by decide +kernel⟩, List.mem_of_getElem? (i := 24) (by decide +kernel), List.mem_of_getElem? (i := 380) (by decide +kernel), List.mem_of_getElem? (i := 381) (by decide +kernel)⟩
theorem lw_p4 : lw_okq (⟨"EvenSpring", "lookAhead", "(I)V"⟩, 9) := ⟨⟨by decide +kernel, by decide +kernel⟩, List.mem_of_getElem? (i := 16) (by decide +kernel), List.mem_of_getElem? (i := 407) (by decide +kernel), List.mem_of_getElem? (i := 408) (by decide +kernel)⟩
theorem lw_p5 : lw_okq (⟨"EvenSpring", "tryDays", "(LEvenSpring$Pilgrim;III)V"⟩, 9) := ⟨⟨by decide +kernel, by decide +kernel⟩, List.mem_of_getElem? (i := 16) (by decide +kernel), List.mem_of_getElem? (i := 412) (by decide +kernel), List.mem_of_getElem? (i := 413) (by decide +kernel)⟩
theorem lw_p6 : lw_okq (⟨"EvenSpring", "daysToWell", "(LEvenSpring$Pilgrim;I)I"⟩, 9) := ⟨⟨by decide +kernel, by decide +kernel⟩, List.mem_of_getElem? (i := 16) (by decide +kernel), List.mem_of_getElem? (i := 425) (by decide +kernel), List.mem_of_getElem? (i := 426) (by decide +kernel)⟩
theorem lw_p7 : lw_okq (⟨"EvenSpring", "agreeAhead", "(III)Z"⟩, 9) := ⟨⟨by decide +kernel, by decide +kernel⟩, List.mem_of_getElem? (i := 16) (by decide +kernel), List.mem_of_getElem? (i := 442) (by decide +kernel), List.mem_of_getElem? (i := 443) (by decide +kernel)⟩
theorem lw_p8 : lw_okq (⟨"EvenSpring", "illOfAllAhead", "(II)I"⟩, 9) := ⟨⟨by decide +kernel, by decide +kernel⟩, List.mem_of_getElem? (i := 16) (by decide +kernel), List.mem_of_getElem? (i := 468) (by decide +kernel), List.mem_of_getElem? (i := 469) (by decide +kernel)⟩
theorem lw_p9 : lw_okq (⟨"EvenSpring", "bestValue", "(IIII)I"⟩, 9) := ⟨⟨by decide +kernel, by decide +kernel⟩, List.mem_of_getElem? (i := 16) (by decide +kernel), List.mem_of_getElem? (i := 480) (by decide +kernel), List.mem_of_getElem? (i := 481) (by decide +kernel)⟩
theorem lw_p10 : lw_okq (⟨"EvenSpring", "agreementsOfTried", "(I)I"⟩, 9) := ⟨⟨by decide +kernel, by decide +kernel⟩, List.mem_of_getElem? (i := 16) (by decide +kernel), List.mem_of_getElem? (i := 494) (by decide +kernel), List.mem_of_getElem? (i := 495) (by decide +kernel)⟩
theorem lw_p11 : lw_okq (⟨"EvenSpring", "wellAhead", "(II)I"⟩, 9) := ⟨⟨by decide +kernel, by decide +kernel⟩, List.mem_of_getElem? (i := 16) (by decide +kernel), List.mem_of_getElem? (i := 506) (by decide +kernel), List.mem_of_getElem? (i := 507) (by decide +kernel)⟩
theorem lw_p12 : lw_okq (⟨"EvenSpring$SpringText", "readToken", "()V"⟩, 7) := ⟨⟨by decide +kernel, by decide +kernel⟩, List.mem_of_getElem? (i := 103) (by decide +kernel), List.mem_of_getElem? (i := 536) (by decide +kernel), List.mem_of_getElem? (i := 537) (by decide +kernel)⟩
theorem lw_p13 : lw_okq (⟨"EvenSpring$SpringText", "byteAt", "(I)I"⟩, 7) := ⟨⟨by decide +kernel, by decide +kernel⟩, List.mem_of_getElem? (i := 103) (by decide +kernel), List.mem_of_getElem? (i := 540) (by decide +kernel), List.mem_of_getElem? (i := 541) (by decide +kernel)⟩
theorem lw_p14 : lw_okq (⟨"EvenSpring$SpringText", "tellItem", "()Z"⟩, 7) := ⟨⟨by decide +kernel, by decide +kernel⟩, List.mem_of_getElem? (i := 103) (by decide +kernel), List.mem_of_getElem? (i := 551) (by decide +kernel), List.mem_of_getElem? (i := 552) (by decide +kernel)⟩
theorem lw_p15 : lw_okq (⟨"EvenSpring$SpringText", "isWord", "(Ljava/lang/String;)Z"⟩, 7) := ⟨⟨by decide +kernel, by decide +kernel⟩, List.mem_of_getElem? (i := 103) (by decide +kernel), List.mem_of_getElem? (i := 556) (by decide +kernel), List.mem_of_getElem? (i := 557) (by decide +kernel)⟩
def lw_privs_1 : List (MethodName × Nat) := [(⟨"EvenSpring", "found", "(I)I"⟩, 9), (⟨"EvenSpring$Calendar", "runsAsNew", "(I)I"⟩, 1), (⟨"EvenSpring$Calendar", "length", "()I"⟩, 1), (⟨"EvenSpring$Spring", "drawJug", "(Z)V"⟩, 9), (⟨"EvenSpring", "lookAhead", "(I)V"⟩, 9), (⟨"EvenSpring", "tryDays", "(LEvenSpring$Pilgrim;III)V"⟩, 9), (⟨"EvenSpring", "daysToWell", "(LEvenSpring$Pilgrim;I)I"⟩, 9), (⟨"EvenSpring", "agreeAhead", "(III)Z"⟩, 9), (⟨"EvenSpring", "illOfAllAhead", "(II)I"⟩, 9), (⟨"EvenSpring", "bestValue", "(IIII)I"⟩, 9), (⟨"EvenSpring", "agreementsOfTried", "(I)I"⟩, 9), (⟨"EvenSpring", "wellAhead", "(II)I"⟩, 9), (⟨"EvenSpring$SpringText", "readToken", "()V"⟩, 7), (⟨"EvenSpring$SpringText", "byteAt", "(I)I"⟩, 7), (⟨"EvenSpring$SpringText", "tellItem", "()Z"⟩, 7), (⟨"EvenSpring$SpringText", "isWord", "(Ljava/lang/String;)Z"⟩, 7)]
theorem lw_r1 : ∀ q ∈ lw_privs_1, lw_okq q := List.forall_mem_cons.mpr ⟨lw_p0, List.forall_mem_cons.mpr ⟨lw_p1, List.forall_mem_cons.mpr ⟨lw_p2, List.forall_mem_cons.mpr ⟨lw_p3, List.forall_mem_cons.mpr ⟨lw_p4, List.forall_mem_cons.mpr ⟨lw_p5, List.forall_mem_cons.mpr ⟨lw_p6, List.forall_mem_cons.mpr ⟨lw_p7, List.forall_mem_cons.mpr ⟨lw_p8, List.forall_mem_cons.mpr ⟨lw_p9, List.forall_mem_cons.mpr ⟨lw_p10, List.forall_mem_cons.mpr ⟨lw_p11, List.forall_mem_cons.mpr ⟨lw_p12, List.forall_mem_cons.mpr ⟨lw_p13, List.forall_mem_cons.mpr ⟨lw_p14, List.forall_mem_cons.mpr ⟨lw_p15, fun _ h => absurd h List.not_mem_nil⟩⟩⟩⟩⟩⟩⟩⟩⟩⟩⟩⟩⟩⟩⟩⟩
theorem lw_p16 : lw_okq (⟨"EvenSpring$SpringText", "tellPilgrim", "()Z"⟩, 7) := ⟨⟨by decide +kernel, by decide +kernel⟩, List.mem_of_getElem? (i := 103) (by decide +kernel), List.mem_of_getElem? (i := 608) (by decide +kernel), List.mem_of_getElem? (i := 609) (by decide +kernel)⟩
theorem lw_p17 : lw_okq (⟨"EvenSpring$SpringText", "isNumber", "(II)Z"⟩, 7) := ⟨⟨by decide +kernel, by decide +kernel⟩, List.mem_of_getElem? (i := 103) (by decide +kernel), List.mem_of_getElem? (i := 612) (by decide +kernel), List.mem_of_getElem? (i := 613) (by decide +kernel)⟩
theorem lw_p18 : lw_okq (⟨"EvenSpring$SpringText", "tellTruth", "()Z"⟩, 7) := ⟨⟨by decide +kernel, by decide +kernel⟩, List.mem_of_getElem? (i := 103) (by decide +kernel), List.mem_of_getElem? (i := 620) (by decide +kernel), List.mem_of_getElem? (i := 621) (by decide +kernel)⟩
theorem lw_p19 : lw_okq (⟨"EvenSpring$SpringText", "tellPower", "()Z"⟩, 7) := ⟨⟨by decide +kernel, by decide +kernel⟩, List.mem_of_getElem? (i := 103) (by decide +kernel), List.mem_of_getElem? (i := 625) (by decide +kernel), List.mem_of_getElem? (i := 626) (by decide +kernel)⟩
theorem lw_p20 : lw_okq (⟨"EvenSpring$SpringText", "tellCalendar", "()Z"⟩, 7) := ⟨⟨by decide +kernel, by decide +kernel⟩, List.mem_of_getElem? (i := 103) (by decide +kernel), List.mem_of_getElem? (i := 629) (by decide +kernel), List.mem_of_getElem? (i := 630) (by decide +kernel)⟩
theorem lw_p21 : lw_okq (⟨"EvenSpring$SpringText", "kindNamed", "()I"⟩, 7) := ⟨⟨by decide +kernel, by decide +kernel⟩, List.mem_of_getElem? (i := 103) (by decide +kernel), List.mem_of_getElem? (i := 633) (by decide +kernel), List.mem_of_getElem? (i := 634) (by decide +kernel)⟩
theorem lw_p22 : lw_okq (⟨"EvenSpring$SpringText", "tellField", "(Ljava/lang/String;I)Z"⟩, 7) := ⟨⟨by decide +kernel, by decide +kernel⟩, List.mem_of_getElem? (i := 103) (by decide +kernel), List.mem_of_getElem? (i := 648) (by decide +kernel), List.mem_of_getElem? (i := 649) (by decide +kernel)⟩
theorem lw_p23 : lw_okq (⟨"EvenSpring", "sheetAt", "(I)LEvenSpring$Sheet;"⟩, 9) := ⟨⟨by decide +kernel, by decide +kernel⟩, List.mem_of_getElem? (i := 16) (by decide +kernel), List.mem_of_getElem? (i := 663) (by decide +kernel), List.mem_of_getElem? (i := 664) (by decide +kernel)⟩
theorem lw_p24 : lw_okq (⟨"EvenSpring$Sheet", "lowest", "(J)J"⟩, 3) := ⟨⟨by decide +kernel, by decide +kernel⟩, List.mem_of_getElem? (i := 141) (by decide +kernel), List.mem_of_getElem? (i := 694) (by decide +kernel), List.mem_of_getElem? (i := 695) (by decide +kernel)⟩
theorem lw_p25 : lw_okq (⟨"EvenSpring", "makesJustSo", "(LEvenSpring$Sheet;LEvenSpring$Pilgrim;II)Z"⟩, 9) := ⟨⟨by decide +kernel, by decide +kernel⟩, List.mem_of_getElem? (i := 16) (by decide +kernel), List.mem_of_getElem? (i := 720) (by decide +kernel), List.mem_of_getElem? (i := 721) (by decide +kernel)⟩
theorem lw_p26 : lw_okq (⟨"EvenSpringModel", "finds", "(I)I"⟩, 16) := ⟨⟨by decide +kernel, by decide +kernel⟩, List.mem_of_getElem? (i := 748) (by decide +kernel), List.mem_of_getElem? (i := 815) (by decide +kernel), List.mem_of_getElem? (i := 816) (by decide +kernel)⟩
theorem lw_p27 : lw_okq (⟨"EvenSpringModel", "adds", "(I)I"⟩, 16) := ⟨⟨by decide +kernel, by decide +kernel⟩, List.mem_of_getElem? (i := 748) (by decide +kernel), List.mem_of_getElem? (i := 820) (by decide +kernel), List.mem_of_getElem? (i := 821) (by decide +kernel)⟩
theorem lw_p28 : lw_okq (⟨"EvenSpringModel", "isCalendar", "(I)Z"⟩, 16) := ⟨⟨by decide +kernel, by decide +kernel⟩, List.mem_of_getElem? (i := 748) (by decide +kernel), List.mem_of_getElem? (i := 828) (by decide +kernel), List.mem_of_getElem? (i := 829) (by decide +kernel)⟩
theorem lw_p29 : lw_okq (⟨"EvenSpringModel", "its", "(II)I"⟩, 16) := ⟨⟨by decide +kernel, by decide +kernel⟩, List.mem_of_getElem? (i := 748) (by decide +kernel), List.mem_of_getElem? (i := 833) (by decide +kernel), List.mem_of_getElem? (i := 834) (by decide +kernel)⟩
theorem lw_p30 : lw_okq (⟨"EvenSpringModel", "becomes", "(II)I"⟩, 16) := ⟨⟨by decide +kernel, by decide +kernel⟩, List.mem_of_getElem? (i := 748) (by decide +kernel), List.mem_of_getElem? (i := 847) (by decide +kernel), List.mem_of_getElem? (i := 848) (by decide +kernel)⟩
theorem lw_p31 : lw_okq (⟨"EvenSpringModel", "dateOf", "(II)I"⟩, 16) := ⟨⟨by decide +kernel, by decide +kernel⟩, List.mem_of_getElem? (i := 748) (by decide +kernel), List.mem_of_getElem? (i := 869) (by decide +kernel), List.mem_of_getElem? (i := 870) (by decide +kernel)⟩
def lw_privs_2 : List (MethodName × Nat) := [(⟨"EvenSpring$SpringText", "tellPilgrim", "()Z"⟩, 7), (⟨"EvenSpring$SpringText", "isNumber", "(II)Z"⟩, 7), (⟨"EvenSpring$SpringText", "tellTruth", "()Z"⟩, 7), (⟨"EvenSpring$SpringText", "tellPower", "()Z"⟩, 7), (⟨"EvenSpring$SpringText", "tellCalendar", "()Z"⟩, 7), (⟨"EvenSpring$SpringText", "kindNamed", "()I"⟩, 7), (⟨"EvenSpring$SpringText", "tellField", "(Ljava/lang/String;I)Z"⟩, 7), (⟨"EvenSpring", "sheetAt", "(I)LEvenSpring$Sheet;"⟩, 9), (⟨"EvenSpring$Sheet", "lowest", "(J)J"⟩, 3), (⟨"EvenSpring", "makesJustSo", "(LEvenSpring$Sheet;LEvenSpring$Pilgrim;II)Z"⟩, 9), (⟨"EvenSpringModel", "finds", "(I)I"⟩, 16), (⟨"EvenSpringModel", "adds", "(I)I"⟩, 16), (⟨"EvenSpringModel", "isCalendar", "(I)Z"⟩, 16), (⟨"EvenSpringModel", "its", "(II)I"⟩, 16), (⟨"EvenSpringModel", "becomes", "(II)I"⟩, 16), (⟨"EvenSpringModel", "dateOf", "(II)I"⟩, 16)]
theorem lw_r2 : ∀ q ∈ lw_privs_2, lw_okq q := List.forall_mem_cons.mpr ⟨lw_p16, List.forall_mem_cons.mpr ⟨lw_p17, List.forall_mem_cons.mpr ⟨lw_p18, List.forall_mem_cons.mpr ⟨lw_p19, List.forall_mem_cons.mpr ⟨lw_p20, List.forall_mem_cons.mpr ⟨lw_p21, List.forall_mem_cons.mpr ⟨lw_p22, List.forall_mem_cons.mpr ⟨lw_p23, List.forall_mem_cons.mpr ⟨lw_p24, List.forall_mem_cons.mpr ⟨lw_p25, List.forall_mem_cons.mpr ⟨lw_p26, List.forall_mem_cons.mpr ⟨lw_p27, List.forall_mem_cons.mpr ⟨lw_p28, List.forall_mem_cons.mpr ⟨lw_p29, List.forall_mem_cons.mpr ⟨lw_p30, List.forall_mem_cons.mpr ⟨lw_p31, fun _ h => absurd h List.not_mem_nil⟩⟩⟩⟩⟩⟩⟩⟩⟩⟩⟩⟩⟩⟩⟩⟩
theorem lw_p32 : lw_okq (⟨"EvenSpringModel", "runs", "(II)I"⟩, 16) := ⟨⟨by decide +kernel, by decide +kernel⟩, List.mem_of_getElem? (i := 748) (by decide +kernel), List.mem_of_getElem? (i := 873) (by decide +kernel), List.mem_of_getElem? (i := 874) (by decide +kernel)⟩
theorem lw_p33 : lw_okq (⟨"EvenSpringModel", "monthOf", "(II)I"⟩, 16) := ⟨⟨by decide +kernel, by decide +kernel⟩, List.mem_of_getElem? (i := 748) (by decide +kernel), List.mem_of_getElem? (i := 877) (by decide +kernel), List.mem_of_getElem? (i := 878) (by decide +kernel)⟩
theorem lw_p34 : lw_okq (⟨"EvenSpringModel", "isHoly", "(II)Z"⟩, 16) := ⟨⟨by decide +kernel, by decide +kernel⟩, List.mem_of_getElem? (i := 748) (by decide +kernel), List.mem_of_getElem? (i := 881) (by decide +kernel), List.mem_of_getElem? (i := 882) (by decide +kernel)⟩
theorem lw_p35 : lw_okq (⟨"EvenSpringModel", "isTrust", "(I)Z"⟩, 16) := ⟨⟨by decide +kernel, by decide +kernel⟩, List.mem_of_getElem? (i := 748) (by decide +kernel), List.mem_of_getElem? (i := 894) (by decide +kernel), List.mem_of_getElem? (i := 895) (by decide +kernel)⟩
theorem lw_p36 : lw_okq (⟨"EvenSpringModel", "comes", "(II)I"⟩, 16) := ⟨⟨by decide +kernel, by decide +kernel⟩, List.mem_of_getElem? (i := 748) (by decide +kernel), List.mem_of_getElem? (i := 898) (by decide +kernel), List.mem_of_getElem? (i := 899) (by decide +kernel)⟩
theorem lw_p37 : lw_okq (⟨"EvenSpringModel", "isPilgrim", "(I)Z"⟩, 16) := ⟨⟨by decide +kernel, by decide +kernel⟩, List.mem_of_getElem? (i := 748) (by decide +kernel), List.mem_of_getElem? (i := 909) (by decide +kernel), List.mem_of_getElem? (i := 910) (by decide +kernel)⟩
theorem lw_p38 : lw_okq (⟨"EvenSpringModel", "isOf", "(II)I"⟩, 16) := ⟨⟨by decide +kernel, by decide +kernel⟩, List.mem_of_getElem? (i := 748) (by decide +kernel), List.mem_of_getElem? (i := 914) (by decide +kernel), List.mem_of_getElem? (i := 915) (by decide +kernel)⟩
theorem lw_p39 : lw_okq (⟨"EvenSpringModel", "helps", "(IZ)V"⟩, 16) := ⟨⟨by decide +kernel, by decide +kernel⟩, List.mem_of_getElem? (i := 748) (by decide +kernel), List.mem_of_getElem? (i := 927) (by decide +kernel), List.mem_of_getElem? (i := 928) (by decide +kernel)⟩
theorem lw_p40 : lw_okq (⟨"EvenSpringModel", "bathes", "(I)V"⟩, 16) := ⟨⟨by decide +kernel, by decide +kernel⟩, List.mem_of_getElem? (i := 748) (by decide +kernel), List.mem_of_getElem? (i := 935) (by decide +kernel), List.mem_of_getElem? (i := 936) (by decide +kernel)⟩
theorem lw_p41 : lw_okq (⟨"EvenSpringModel", "goesOn", "(I)V"⟩, 16) := ⟨⟨by decide +kernel, by decide +kernel⟩, List.mem_of_getElem? (i := 748) (by decide +kernel), List.mem_of_getElem? (i := 945) (by decide +kernel), List.mem_of_getElem? (i := 946) (by decide +kernel)⟩
theorem lw_p42 : lw_okq (⟨"EvenSpringModel", "day", "()V"⟩, 16) := ⟨⟨by decide +kernel, by decide +kernel⟩, List.mem_of_getElem? (i := 748) (by decide +kernel), List.mem_of_getElem? (i := 949) (by decide +kernel), List.mem_of_getElem? (i := 950) (by decide +kernel)⟩
theorem lw_p43 : lw_okq (⟨"EvenSpringModel", "wellOnes", "()I"⟩, 16) := ⟨⟨by decide +kernel, by decide +kernel⟩, List.mem_of_getElem? (i := 748) (by decide +kernel), List.mem_of_getElem? (i := 953) (by decide +kernel), List.mem_of_getElem? (i := 954) (by decide +kernel)⟩
theorem lw_p44 : lw_okq (⟨"EvenSpringModel", "together", "(I)I"⟩, 16) := ⟨⟨by decide +kernel, by decide +kernel⟩, List.mem_of_getElem? (i := 748) (by decide +kernel), List.mem_of_getElem? (i := 964) (by decide +kernel), List.mem_of_getElem? (i := 965) (by decide +kernel)⟩
theorem lw_p45 : lw_okq (⟨"EvenSpringModel", "laysAside", "()V"⟩, 16) := ⟨⟨by decide +kernel, by decide +kernel⟩, List.mem_of_getElem? (i := 748) (by decide +kernel), List.mem_of_getElem? (i := 972) (by decide +kernel), List.mem_of_getElem? (i := 973) (by decide +kernel)⟩
theorem lw_p46 : lw_okq (⟨"EvenSpringModel", "takesBack", "(I)I"⟩, 16) := ⟨⟨by decide +kernel, by decide +kernel⟩, List.mem_of_getElem? (i := 748) (by decide +kernel), List.mem_of_getElem? (i := 976) (by decide +kernel), List.mem_of_getElem? (i := 977) (by decide +kernel)⟩
theorem lw_p47 : lw_okq (⟨"EvenSpringModel", "wellIn", "(I)I"⟩, 16) := ⟨⟨by decide +kernel, by decide +kernel⟩, List.mem_of_getElem? (i := 748) (by decide +kernel), List.mem_of_getElem? (i := 984) (by decide +kernel), List.mem_of_getElem? (i := 985) (by decide +kernel)⟩
def lw_privs_3 : List (MethodName × Nat) := [(⟨"EvenSpringModel", "runs", "(II)I"⟩, 16), (⟨"EvenSpringModel", "monthOf", "(II)I"⟩, 16), (⟨"EvenSpringModel", "isHoly", "(II)Z"⟩, 16), (⟨"EvenSpringModel", "isTrust", "(I)Z"⟩, 16), (⟨"EvenSpringModel", "comes", "(II)I"⟩, 16), (⟨"EvenSpringModel", "isPilgrim", "(I)Z"⟩, 16), (⟨"EvenSpringModel", "isOf", "(II)I"⟩, 16), (⟨"EvenSpringModel", "helps", "(IZ)V"⟩, 16), (⟨"EvenSpringModel", "bathes", "(I)V"⟩, 16), (⟨"EvenSpringModel", "goesOn", "(I)V"⟩, 16), (⟨"EvenSpringModel", "day", "()V"⟩, 16), (⟨"EvenSpringModel", "wellOnes", "()I"⟩, 16), (⟨"EvenSpringModel", "together", "(I)I"⟩, 16), (⟨"EvenSpringModel", "laysAside", "()V"⟩, 16), (⟨"EvenSpringModel", "takesBack", "(I)I"⟩, 16), (⟨"EvenSpringModel", "wellIn", "(I)I"⟩, 16)]
theorem lw_r3 : ∀ q ∈ lw_privs_3, lw_okq q := List.forall_mem_cons.mpr ⟨lw_p32, List.forall_mem_cons.mpr ⟨lw_p33, List.forall_mem_cons.mpr ⟨lw_p34, List.forall_mem_cons.mpr ⟨lw_p35, List.forall_mem_cons.mpr ⟨lw_p36, List.forall_mem_cons.mpr ⟨lw_p37, List.forall_mem_cons.mpr ⟨lw_p38, List.forall_mem_cons.mpr ⟨lw_p39, List.forall_mem_cons.mpr ⟨lw_p40, List.forall_mem_cons.mpr ⟨lw_p41, List.forall_mem_cons.mpr ⟨lw_p42, List.forall_mem_cons.mpr ⟨lw_p43, List.forall_mem_cons.mpr ⟨lw_p44, List.forall_mem_cons.mpr ⟨lw_p45, List.forall_mem_cons.mpr ⟨lw_p46, List.forall_mem_cons.mpr ⟨lw_p47, fun _ h => absurd h List.not_mem_nil⟩⟩⟩⟩⟩⟩⟩⟩⟩⟩⟩⟩⟩⟩⟩⟩
theorem lw_p48 : lw_okq (⟨"EvenSpringModel", "areTwo", "(II)Z"⟩, 16) := ⟨⟨by decide +kernel, by decide +kernel⟩, List.mem_of_getElem? (i := 748) (by decide +kernel), List.mem_of_getElem? (i := 997) (by decide +kernel), List.mem_of_getElem? (i := 998) (by decide +kernel)⟩
theorem lw_p49 : lw_okq (⟨"EvenSpringModel", "agreed", "(III)I"⟩, 16) := ⟨⟨by decide +kernel, by decide +kernel⟩, List.mem_of_getElem? (i := 748) (by decide +kernel), List.mem_of_getElem? (i := 1001) (by decide +kernel), List.mem_of_getElem? (i := 1002) (by decide +kernel)⟩
theorem lw_p50 : lw_okq (⟨"EvenSpringModel", "isAgreed", "(III)Z"⟩, 16) := ⟨⟨by decide +kernel, by decide +kernel⟩, List.mem_of_getElem? (i := 748) (by decide +kernel), List.mem_of_getElem? (i := 1005) (by decide +kernel), List.mem_of_getElem? (i := 1006) (by decide +kernel)⟩
theorem lw_p51 : lw_okq (⟨"EvenSpringModel", "holyBy", "(I)I"⟩, 16) := ⟨⟨by decide +kernel, by decide +kernel⟩, List.mem_of_getElem? (i := 748) (by decide +kernel), List.mem_of_getElem? (i := 1017) (by decide +kernel), List.mem_of_getElem? (i := 1018) (by decide +kernel)⟩
theorem lw_p52 : lw_okq (⟨"EvenSpringModel", "mostAgreed", "(IIII)I"⟩, 16) := ⟨⟨by decide +kernel, by decide +kernel⟩, List.mem_of_getElem? (i := 748) (by decide +kernel), List.mem_of_getElem? (i := 1045) (by decide +kernel), List.mem_of_getElem? (i := 1046) (by decide +kernel)⟩
theorem lw_p53 : lw_okq (⟨"EvenSpringModel", "saves", "()V"⟩, 16) := ⟨⟨by decide +kernel, by decide +kernel⟩, List.mem_of_getElem? (i := 748) (by decide +kernel), List.mem_of_getElem? (i := 1069) (by decide +kernel), List.mem_of_getElem? (i := 1070) (by decide +kernel)⟩
theorem lw_p54 : lw_okq (⟨"EvenSpringModel", "token", "()V"⟩, 16) := ⟨⟨by decide +kernel, by decide +kernel⟩, List.mem_of_getElem? (i := 748) (by decide +kernel), List.mem_of_getElem? (i := 1073) (by decide +kernel), List.mem_of_getElem? (i := 1074) (by decide +kernel)⟩
theorem lw_p55 : lw_okq (⟨"EvenSpringModel", "byteAt", "(I)I"⟩, 16) := ⟨⟨by decide +kernel, by decide +kernel⟩, List.mem_of_getElem? (i := 748) (by decide +kernel), List.mem_of_getElem? (i := 1077) (by decide +kernel), List.mem_of_getElem? (i := 1078) (by decide +kernel)⟩
theorem lw_p56 : lw_okq (⟨"EvenSpringModel", "item", "()V"⟩, 16) := ⟨⟨by decide +kernel, by decide +kernel⟩, List.mem_of_getElem? (i := 748) (by decide +kernel), List.mem_of_getElem? (i := 1091) (by decide +kernel), List.mem_of_getElem? (i := 1092) (by decide +kernel)⟩
theorem lw_p57 : lw_okq (⟨"EvenSpringModel", "kindHere", "()I"⟩, 16) := ⟨⟨by decide +kernel, by decide +kernel⟩, List.mem_of_getElem? (i := 748) (by decide +kernel), List.mem_of_getElem? (i := 1095) (by decide +kernel), List.mem_of_getElem? (i := 1096) (by decide +kernel)⟩
theorem lw_p58 : lw_okq (⟨"EvenSpringModel", "word", "()J"⟩, 16) := ⟨⟨by decide +kernel, by decide +kernel⟩, List.mem_of_getElem? (i := 748) (by decide +kernel), List.mem_of_getElem? (i := 1099) (by decide +kernel), List.mem_of_getElem? (i := 1100) (by decide +kernel)⟩
theorem lw_p59 : lw_okq (⟨"EvenSpringModel", "calendarItem", "(I)V"⟩, 16) := ⟨⟨by decide +kernel, by decide +kernel⟩, List.mem_of_getElem? (i := 748) (by decide +kernel), List.mem_of_getElem? (i := 1111) (by decide +kernel), List.mem_of_getElem? (i := 1112) (by decide +kernel)⟩
theorem lw_p60 : lw_okq (⟨"EvenSpringModel", "must", "(Z)V"⟩, 16) := ⟨⟨by decide +kernel, by decide +kernel⟩, List.mem_of_getElem? (i := 748) (by decide +kernel), List.mem_of_getElem? (i := 1115) (by decide +kernel), List.mem_of_getElem? (i := 1116) (by decide +kernel)⟩
theorem lw_p61 : lw_okq (⟨"EvenSpringModel", "partItem", "(JIII)V"⟩, 16) := ⟨⟨by decide +kernel, by decide +kernel⟩, List.mem_of_getElem? (i := 748) (by decide +kernel), List.mem_of_getElem? (i := 1120) (by decide +kernel), List.mem_of_getElem? (i := 1121) (by decide +kernel)⟩
theorem lw_p62 : lw_okq (⟨"EvenSpringModel", "number", "(II)V"⟩, 16) := ⟨⟨by decide +kernel, by decide +kernel⟩, List.mem_of_getElem? (i := 748) (by decide +kernel), List.mem_of_getElem? (i := 1124) (by decide +kernel), List.mem_of_getElem? (i := 1125) (by decide +kernel)⟩
theorem lw_p63 : lw_okq (⟨"EvenSpringModel", "pilgrimItem", "()V"⟩, 16) := ⟨⟨by decide +kernel, by decide +kernel⟩, List.mem_of_getElem? (i := 748) (by decide +kernel), List.mem_of_getElem? (i := 1132) (by decide +kernel), List.mem_of_getElem? (i := 1133) (by decide +kernel)⟩
def lw_privs_4 : List (MethodName × Nat) := [(⟨"EvenSpringModel", "areTwo", "(II)Z"⟩, 16), (⟨"EvenSpringModel", "agreed", "(III)I"⟩, 16), (⟨"EvenSpringModel", "isAgreed", "(III)Z"⟩, 16), (⟨"EvenSpringModel", "holyBy", "(I)I"⟩, 16), (⟨"EvenSpringModel", "mostAgreed", "(IIII)I"⟩, 16), (⟨"EvenSpringModel", "saves", "()V"⟩, 16), (⟨"EvenSpringModel", "token", "()V"⟩, 16), (⟨"EvenSpringModel", "byteAt", "(I)I"⟩, 16), (⟨"EvenSpringModel", "item", "()V"⟩, 16), (⟨"EvenSpringModel", "kindHere", "()I"⟩, 16), (⟨"EvenSpringModel", "word", "()J"⟩, 16), (⟨"EvenSpringModel", "calendarItem", "(I)V"⟩, 16), (⟨"EvenSpringModel", "must", "(Z)V"⟩, 16), (⟨"EvenSpringModel", "partItem", "(JIII)V"⟩, 16), (⟨"EvenSpringModel", "number", "(II)V"⟩, 16), (⟨"EvenSpringModel", "pilgrimItem", "()V"⟩, 16)]
theorem lw_r4 : ∀ q ∈ lw_privs_4, lw_okq q := List.forall_mem_cons.mpr ⟨lw_p48, List.forall_mem_cons.mpr ⟨lw_p49, List.forall_mem_cons.mpr ⟨lw_p50, List.forall_mem_cons.mpr ⟨lw_p51, List.forall_mem_cons.mpr ⟨lw_p52, List.forall_mem_cons.mpr ⟨lw_p53, List.forall_mem_cons.mpr ⟨lw_p54, List.forall_mem_cons.mpr ⟨lw_p55, List.forall_mem_cons.mpr ⟨lw_p56, List.forall_mem_cons.mpr ⟨lw_p57, List.forall_mem_cons.mpr ⟨lw_p58, List.forall_mem_cons.mpr ⟨lw_p59, List.forall_mem_cons.mpr ⟨lw_p60, List.forall_mem_cons.mpr ⟨lw_p61, List.forall_mem_cons.mpr ⟨lw_p62, List.forall_mem_cons.mpr ⟨lw_p63, fun _ h => absurd h List.not_mem_nil⟩⟩⟩⟩⟩⟩⟩⟩⟩⟩⟩⟩⟩⟩⟩⟩
theorem lw_p64 : lw_okq (⟨"EvenSpringModel", "putsBack", "()V"⟩, 16) := ⟨⟨by decide +kernel, by decide +kernel⟩, List.mem_of_getElem? (i := 748) (by decide +kernel), List.mem_of_getElem? (i := 1139) (by decide +kernel), List.mem_of_getElem? (i := 1140) (by decide +kernel)⟩
theorem lw_p65 : lw_okq (⟨"EvenSpringModel", "wrongSheet", "(I)I"⟩, 16) := ⟨⟨by decide +kernel, by decide +kernel⟩, List.mem_of_getElem? (i := 748) (by decide +kernel), List.mem_of_getElem? (i := 1155) (by decide +kernel), List.mem_of_getElem? (i := 1156) (by decide +kernel)⟩
theorem lw_p66 : lw_okq (⟨"EvenSpringModel", "wrongBook", "(II)I"⟩, 16) := ⟨⟨by decide +kernel, by decide +kernel⟩, List.mem_of_getElem? (i := 748) (by decide +kernel), List.mem_of_getElem? (i := 1175) (by decide +kernel), List.mem_of_getElem? (i := 1176) (by decide +kernel)⟩
theorem lw_p67 : lw_okq (⟨"EvenSpringModel", "isBook", "(II)Z"⟩, 16) := ⟨⟨by decide +kernel, by decide +kernel⟩, List.mem_of_getElem? (i := 748) (by decide +kernel), List.mem_of_getElem? (i := 1183) (by decide +kernel), List.mem_of_getElem? (i := 1184) (by decide +kernel)⟩
def lw_privs_5 : List (MethodName × Nat) := [(⟨"EvenSpringModel", "putsBack", "()V"⟩, 16), (⟨"EvenSpringModel", "wrongSheet", "(I)I"⟩, 16), (⟨"EvenSpringModel", "wrongBook", "(II)I"⟩, 16), (⟨"EvenSpringModel", "isBook", "(II)Z"⟩, 16)]
theorem lw_r5 : ∀ q ∈ lw_privs_5, lw_okq q := List.forall_mem_cons.mpr ⟨lw_p64, List.forall_mem_cons.mpr ⟨lw_p65, List.forall_mem_cons.mpr ⟨lw_p66, List.forall_mem_cons.mpr ⟨lw_p67, fun _ h => absurd h List.not_mem_nil⟩⟩⟩⟩
def lw_privs : List (MethodName × Nat) := lw_privs_1 ++ (lw_privs_2 ++ (lw_privs_3 ++ (lw_privs_4 ++ (lw_privs_5))))
def lw_tbl : List Cond := k2_sels lw_privs ++ tables_1
theorem lw_privs_ok : ∀ q ∈ lw_privs, lw_okq q := by
  show ∀ q ∈ lw_privs_1 ++ (lw_privs_2 ++ (lw_privs_3 ++ (lw_privs_4 ++ (lw_privs_5)))), lw_okq q
  exact List.forall_mem_append.mpr ⟨lw_r1, List.forall_mem_append.mpr ⟨lw_r2, List.forall_mem_append.mpr ⟨lw_r3, List.forall_mem_append.mpr ⟨lw_r4, lw_r5⟩⟩⟩⟩
theorem goodIn_r {big : List Cond} (ws : List Cond) (ps : List Nat) (hp : ws = ps.filterMap (fun i => big[i]?)) (h : ws.all goodWord = true) : GoodIn big ws := by
  intro w hw
  have h1 := List.all_eq_true.mp h w hw
  rw [hp] at hw
  obtain ⟨i, -, hi⟩ := List.mem_filterMap.mp hw
  have hm : w ∈ big := by first | exact List.mem_of_getElem? hi | exact List.getElem?_mem hi
  exact ⟨hm, good_of_word h1⟩
theorem goodIn_app {big a b : List Cond} (ha : GoodIn big a) (hb : GoodIn big b) : GoodIn big (a ++ b) := fun w h => (List.mem_append.mp h).elim (ha w) (hb w)
theorem goodIn_ca {big a b : List Cond} {c : Cond} (ha : GoodIn big (c :: a)) (hb : GoodIn big b) : GoodIn big (c :: (a ++ b)) := fun w h => (List.mem_cons.mp h).elim (fun e => ha w (List.mem_cons.mpr (Or.inl e))) (fun h => (List.mem_append.mp h).elim (fun h => ha w (List.mem_cons.mpr (Or.inr h))) (hb w))
theorem goodIn_sub {big ws : List Cond} (hm : ∀ w ∈ ws, w ∈ big) (h : ws.all goodWord = true) : GoodIn big ws := fun w hw => ⟨hm w hw, good_of_word (List.all_eq_true.mp h w hw)⟩
def RX0 : String := "EvenSpring$Calendar"
def TX0 : u_T := fun k => match k with
  | _ => ("EvenSpring$Calendar", "fields", "[I", true)
def tyX0 : Nat → FieldType := fun k => match k with
  | _ => .array .int
abbrev wsX00 : List Cond := u_ws RX0 TX0 1
theorem nmX0 : ∀ a, a < 1 → ∀ b, b < 1 → a ≠ b → (TX0 a).2.1 ≠ (TX0 b).2.1 := by decide +kernel
theorem tyX0_ok : ∀ k, k < 1 → parseFieldDescriptor (TX0 k).2.2.1 = some (tyX0 k) := by decide +kernel
abbrev cX0_init : ByteArray := prog_2_method_1_code
def yX0_init : MethodName := ⟨RX0, "<init>", "()V"⟩
abbrev cX0_isField : ByteArray := prog_2_method_2_code
def yX0_isField : MethodName := ⟨RX0, "isField", "(I)Z"⟩
abbrev cX0_allows : ByteArray := prog_2_method_3_code
def yX0_allows : MethodName := ⟨RX0, "allows", "(II)Z"⟩
abbrev cX0_least : ByteArray := prog_2_method_4_code
def yX0_least : MethodName := ⟨RX0, "least", "(I)I"⟩
abbrev cX0_greatest : ByteArray := prog_2_method_5_code
def yX0_greatest : MethodName := ⟨RX0, "greatest", "(I)I"⟩
abbrev cX0_startAs : ByteArray := prog_2_method_6_code
def yX0_startAs : MethodName := ⟨RX0, "startAs", "(I)V"⟩
abbrev cX0_become : ByteArray := prog_2_method_7_code
def yX0_become : MethodName := ⟨RX0, "become", "(LEvenSpring$Calendar;)V"⟩
abbrev cX0_value : ByteArray := prog_2_method_8_code
def yX0_value : MethodName := ⟨RX0, "value", "(I)I"⟩
abbrev cX0_change : ByteArray := prog_2_method_9_code
def yX0_change : MethodName := ⟨RX0, "change", "(II)I"⟩
abbrev cX0_isOfKind : ByteArray := prog_2_method_10_code
def yX0_isOfKind : MethodName := ⟨RX0, "isOfKind", "(I)Z"⟩
abbrev cX0_length : ByteArray := prog_2_method_11_code
def yX0_length : MethodName := ⟨RX0, "length", "()I"⟩
abbrev cX0_runsAt : ByteArray := prog_2_method_12_code
def yX0_runsAt : MethodName := ⟨RX0, "runsAt", "(I)I"⟩
abbrev cX0_runsAsNew : ByteArray := prog_2_method_13_code
def yX0_runsAsNew : MethodName := ⟨RX0, "runsAsNew", "(I)I"⟩
abbrev cX0_jugDaysUpTo : ByteArray := prog_2_method_14_code
def yX0_jugDaysUpTo : MethodName := ⟨RX0, "jugDaysUpTo", "(I)I"⟩
abbrev cX0_dateAt : ByteArray := prog_2_method_15_code
def yX0_dateAt : MethodName := ⟨RX0, "dateAt", "(I)I"⟩
abbrev cX0_monthAt : ByteArray := prog_2_method_16_code
def yX0_monthAt : MethodName := ⟨RX0, "monthAt", "(I)I"⟩
abbrev cX0_isHoly : ByteArray := prog_2_method_17_code
def yX0_isHoly : MethodName := ⟨RX0, "isHoly", "(I)Z"⟩
def RX1 : String := "EvenSpring$Pilgrim"
def TX1 : u_T := fun k => match k with
  | 0 => ("EvenSpring$Pilgrim", "ill", "I", false)
  | 1 => ("EvenSpring$Pilgrim", "trusts", "I", false)
  | _ => ("EvenSpring$Pilgrim", "bathed", "I", false)
def tyX1 : Nat → FieldType := fun k => match k with
  | 0 => .int
  | 1 => .int
  | _ => .int
abbrev wsX10 : List Cond := u_ws RX1 TX1 3
theorem nmX1 : ∀ a, a < 3 → ∀ b, b < 3 → a ≠ b → (TX1 a).2.1 ≠ (TX1 b).2.1 := by decide +kernel
theorem tyX1_ok : ∀ k, k < 3 → parseFieldDescriptor (TX1 k).2.2.1 = some (tyX1 k) := by decide +kernel
abbrev cX1_init : ByteArray := prog_3_method_1_code
def yX1_init : MethodName := ⟨RX1, "<init>", "()V"⟩
abbrev cX1_startWith : ByteArray := prog_3_method_2_code
def yX1_startWith : MethodName := ⟨RX1, "startWith", "(II)V"⟩
abbrev cX1_become : ByteArray := prog_3_method_3_code
def yX1_become : MethodName := ⟨RX1, "become", "(LEvenSpring$Pilgrim;)V"⟩
abbrev cX1_takeWater : ByteArray := prog_3_method_4_code
def yX1_takeWater : MethodName := ⟨RX1, "takeWater", "(ZI)V"⟩
abbrev cX1_takeBath : ByteArray := prog_3_method_5_code
def yX1_takeBath : MethodName := ⟨RX1, "takeBath", "(ZI)V"⟩
abbrev cX1_passDay : ByteArray := prog_3_method_6_code
def yX1_passDay : MethodName := ⟨RX1, "passDay", "(III)V"⟩
def RX2 : String := "EvenSpring$Sheet"
def TX2 : u_T := fun k => match k with
  | 0 => ("EvenSpring$Sheet", "bits", "I", false)
  | 1 => ("EvenSpring$Sheet", "size", "I", false)
  | _ => ("EvenSpring$Sheet", "numbers", "[J", true)
def tyX2 : Nat → FieldType := fun k => match k with
  | 0 => .int
  | 1 => .int
  | _ => .array .long
abbrev wsX20 : List Cond := u_ws RX2 TX2 3
theorem nmX2 : ∀ a, a < 3 → ∀ b, b < 3 → a ≠ b → (TX2 a).2.1 ≠ (TX2 b).2.1 := by decide +kernel
theorem tyX2_ok : ∀ k, k < 3 → parseFieldDescriptor (TX2 k).2.2.1 = some (tyX2 k) := by decide +kernel
abbrev cX2_init : ByteArray := prog_4_method_1_code
def yX2_init : MethodName := ⟨RX2, "<init>", "()V"⟩
abbrev cX2_allows : ByteArray := prog_4_method_2_code
def yX2_allows : MethodName := ⟨RX2, "allows", "(I)Z"⟩
abbrev cX2_lay : ByteArray := prog_4_method_3_code
def yX2_lay : MethodName := ⟨RX2, "lay", "(II)V"⟩
abbrev cX2_isMissing : ByteArray := prog_4_method_4_code
def yX2_isMissing : MethodName := ⟨RX2, "isMissing", "()Z"⟩
abbrev cX2_hasRange : ByteArray := prog_4_method_5_code
def yX2_hasRange : MethodName := ⟨RX2, "hasRange", "(II)Z"⟩
abbrev cX2_numberAt : ByteArray := prog_4_method_6_code
def yX2_numberAt : MethodName := ⟨RX2, "numberAt", "(I)J"⟩
abbrev cX2_put : ByteArray := prog_4_method_7_code
def yX2_put : MethodName := ⟨RX2, "put", "(IJ)V"⟩
abbrev cX2_lowest : ByteArray := prog_4_method_8_code
def yX2_lowest : MethodName := ⟨RX2, "lowest", "(J)J"⟩
def RX3 : String := "EvenSpring$Spring"
def TX3 : u_T := fun k => match k with
  | 0 => ("EvenSpring$Spring", "day", "I", false)
  | 1 => ("EvenSpring$Spring", "power", "I", false)
  | 2 => ("EvenSpring$Spring", "truth", "I", false)
  | 3 => ("EvenSpring$Spring", "good", "I", false)
  | 4 => ("EvenSpring$Spring", "bad", "I", false)
  | 5 => ("EvenSpring$Spring", "calendarCount", "I", false)
  | 6 => ("EvenSpring$Spring", "pilgrimCount", "I", false)
  | 7 => ("EvenSpring$Spring", "calendars", "[LEvenSpring$Calendar;", true)
  | _ => ("EvenSpring$Spring", "pilgrims", "[LEvenSpring$Pilgrim;", true)
def tyX3 : Nat → FieldType := fun k => match k with
  | 0 => .int
  | 1 => .int
  | 2 => .int
  | 3 => .int
  | 4 => .int
  | 5 => .int
  | 6 => .int
  | 7 => .array (.object "EvenSpring$Calendar")
  | _ => .array (.object "EvenSpring$Pilgrim")
abbrev wsX30 : List Cond := u_ws RX3 TX3 9
theorem nmX3 : ∀ a, a < 9 → ∀ b, b < 9 → a ≠ b → (TX3 a).2.1 ≠ (TX3 b).2.1 := by decide +kernel
theorem tyX3_ok : ∀ k, k < 9 → parseFieldDescriptor (TX3 k).2.2.1 = some (tyX3 k) := by decide +kernel
abbrev cX3_init : ByteArray := prog_5_method_1_code
def yX3_init : MethodName := ⟨RX3, "<init>", "()V"⟩
abbrev cX3_become : ByteArray := prog_5_method_2_code
def yX3_become : MethodName := ⟨RX3, "become", "(LEvenSpring$Spring;)V"⟩
abbrev cX3_calendarAt : ByteArray := prog_5_method_3_code
def yX3_calendarAt : MethodName := ⟨RX3, "calendarAt", "(I)LEvenSpring$Calendar;"⟩
abbrev cX3_pilgrimAt : ByteArray := prog_5_method_4_code
def yX3_pilgrimAt : MethodName := ⟨RX3, "pilgrimAt", "(I)LEvenSpring$Pilgrim;"⟩
abbrev cX3_hasBoth : ByteArray := prog_5_method_5_code
def yX3_hasBoth : MethodName := ⟨RX3, "hasBoth", "(II)Z"⟩
abbrev cX3_canTrust : ByteArray := prog_5_method_6_code
def yX3_canTrust : MethodName := ⟨RX3, "canTrust", "(I)Z"⟩
abbrev cX3_addCalendar : ByteArray := prog_5_method_7_code
def yX3_addCalendar : MethodName := ⟨RX3, "addCalendar", "(I)V"⟩
abbrev cX3_addPilgrim : ByteArray := prog_5_method_8_code
def yX3_addPilgrim : MethodName := ⟨RX3, "addPilgrim", "(II)V"⟩
abbrev cX3_isHolyBy : ByteArray := prog_5_method_9_code
def yX3_isHolyBy : MethodName := ⟨RX3, "isHolyBy", "(II)Z"⟩
abbrev cX3_holySet : ByteArray := prog_5_method_10_code
def yX3_holySet : MethodName := ⟨RX3, "holySet", "(I)I"⟩
abbrev cX3_takeJug : ByteArray := prog_5_method_11_code
def yX3_takeJug : MethodName := ⟨RX3, "takeJug", "(Z)Z"⟩
abbrev cX3_passDay : ByteArray := prog_5_method_12_code
def yX3_passDay : MethodName := ⟨RX3, "passDay", "()V"⟩
abbrev cX3_drawJug : ByteArray := prog_5_method_13_code
def yX3_drawJug : MethodName := ⟨RX3, "drawJug", "(Z)V"⟩
abbrev cX3_wellSet : ByteArray := prog_5_method_14_code
def yX3_wellSet : MethodName := ⟨RX3, "wellSet", "()I"⟩
abbrev cX3_illOfAll : ByteArray := prog_5_method_15_code
def yX3_illOfAll : MethodName := ⟨RX3, "illOfAll", "()I"⟩
abbrev cX3_bathedOfAll : ByteArray := prog_5_method_16_code
def yX3_bathedOfAll : MethodName := ⟨RX3, "bathedOfAll", "()I"⟩
def RX4 : String := "EvenSpring$SpringText"
def TX4 : u_T := fun k => match k with
  | 0 => ("EvenSpring$SpringText", "tape", "[B", true)
  | 1 => ("EvenSpring$SpringText", "length", "I", false)
  | 2 => ("EvenSpring$SpringText", "told", "LEvenSpring$Spring;", true)
  | 3 => ("EvenSpring$SpringText", "token", "I", false)
  | 4 => ("EvenSpring$SpringText", "start", "I", false)
  | 5 => ("EvenSpring$SpringText", "end", "I", false)
  | _ => ("EvenSpring$SpringText", "number", "I", false)
def tyX4 : Nat → FieldType := fun k => match k with
  | 0 => .array .byte
  | 1 => .int
  | 2 => .object "EvenSpring$Spring"
  | 3 => .int
  | 4 => .int
  | 5 => .int
  | _ => .int
abbrev wsX40 : List Cond := u_ws RX4 TX4 7
theorem nmX4 : ∀ a, a < 7 → ∀ b, b < 7 → a ≠ b → (TX4 a).2.1 ≠ (TX4 b).2.1 := by decide +kernel
theorem tyX4_ok : ∀ k, k < 7 → parseFieldDescriptor (TX4 k).2.2.1 = some (tyX4 k) := by decide +kernel
abbrev cX4_init : ByteArray := prog_6_method_1_code
def yX4_init : MethodName := ⟨RX4, "<init>", "()V"⟩
abbrev cX4_add : ByteArray := prog_6_method_2_code
def yX4_add : MethodName := ⟨RX4, "add", "(B)V"⟩
abbrev cX4_tell : ByteArray := prog_6_method_3_code
def yX4_tell : MethodName := ⟨RX4, "tell", "(LEvenSpring$Spring;)I"⟩
abbrev cX4_tellItem : ByteArray := prog_6_method_4_code
def yX4_tellItem : MethodName := ⟨RX4, "tellItem", "()Z"⟩
abbrev cX4_tellTruth : ByteArray := prog_6_method_5_code
def yX4_tellTruth : MethodName := ⟨RX4, "tellTruth", "()Z"⟩
abbrev cX4_tellPower : ByteArray := prog_6_method_6_code
def yX4_tellPower : MethodName := ⟨RX4, "tellPower", "()Z"⟩
abbrev cX4_tellCalendar : ByteArray := prog_6_method_7_code
def yX4_tellCalendar : MethodName := ⟨RX4, "tellCalendar", "()Z"⟩
abbrev cX4_tellField : ByteArray := prog_6_method_8_code
def yX4_tellField : MethodName := ⟨RX4, "tellField", "(Ljava/lang/String;I)Z"⟩
abbrev cX4_tellPilgrim : ByteArray := prog_6_method_9_code
def yX4_tellPilgrim : MethodName := ⟨RX4, "tellPilgrim", "()Z"⟩
abbrev cX4_isNumber : ByteArray := prog_6_method_10_code
def yX4_isNumber : MethodName := ⟨RX4, "isNumber", "(II)Z"⟩
abbrev cX4_kindNamed : ByteArray := prog_6_method_11_code
def yX4_kindNamed : MethodName := ⟨RX4, "kindNamed", "()I"⟩
abbrev cX4_nameOf : ByteArray := prog_6_method_12_code
def yX4_nameOf : MethodName := ⟨RX4, "nameOf", "(I)Ljava/lang/String;"⟩
abbrev cX4_isWord : ByteArray := prog_6_method_13_code
def yX4_isWord : MethodName := ⟨RX4, "isWord", "(Ljava/lang/String;)Z"⟩
abbrev cX4_readToken : ByteArray := prog_6_method_14_code
def yX4_readToken : MethodName := ⟨RX4, "readToken", "()V"⟩
abbrev cX4_isLetter : ByteArray := prog_6_method_15_code
def yX4_isLetter : MethodName := ⟨RX4, "isLetter", "(I)Z"⟩
abbrev cX4_isDigit : ByteArray := prog_6_method_16_code
def yX4_isDigit : MethodName := ⟨RX4, "isDigit", "(I)Z"⟩
abbrev cX4_byteAt : ByteArray := prog_6_method_17_code
def yX4_byteAt : MethodName := ⟨RX4, "byteAt", "(I)I"⟩
def RX5 : String := "EvenSpring"
def TX5 : u_T := fun k => match k with
  | 0 => ("EvenSpring", "here", "LEvenSpring$Spring;", true)
  | 1 => ("EvenSpring", "kept", "LEvenSpring$Spring;", true)
  | 2 => ("EvenSpring", "isKept", "Z", false)
  | 3 => ("EvenSpring", "text", "LEvenSpring$SpringText;", true)
  | 4 => ("EvenSpring", "sheets", "[LEvenSpring$Sheet;", true)
  | 5 => ("EvenSpring", "findings", "[I", true)
  | 6 => ("EvenSpring", "ahead", "[I", true)
  | 7 => ("EvenSpring", "trial", "LEvenSpring$Pilgrim;", true)
  | _ => ("EvenSpring", "tried", "LEvenSpring$Calendar;", true)
def tyX5 : Nat → FieldType := fun k => match k with
  | 0 => .object "EvenSpring$Spring"
  | 1 => .object "EvenSpring$Spring"
  | 2 => .boolean
  | 3 => .object "EvenSpring$SpringText"
  | 4 => .array (.object "EvenSpring$Sheet")
  | 5 => .array .int
  | 6 => .array .int
  | 7 => .object "EvenSpring$Pilgrim"
  | _ => .object "EvenSpring$Calendar"
abbrev wsX50 : List Cond := u_ws RX5 TX5 9
theorem nmX5 : ∀ a, a < 9 → ∀ b, b < 9 → a ≠ b → (TX5 a).2.1 ≠ (TX5 b).2.1 := by decide +kernel
theorem tyX5_ok : ∀ k, k < 9 → parseFieldDescriptor (TX5 k).2.2.1 = some (tyX5 k) := by decide +kernel
abbrev cX5_init : ByteArray := prog_1_method_1_code
def yX5_init : MethodName := ⟨RX5, "<init>", "()V"⟩
abbrev cX5_calendar : ByteArray := prog_1_method_2_code
def yX5_calendar : MethodName := ⟨RX5, "calendar", "(I)I"⟩
abbrev cX5_of : ByteArray := prog_1_method_3_code
def yX5_of : MethodName := ⟨RX5, "of", "(II)I"⟩
abbrev cX5_set : ByteArray := prog_1_method_4_code
def yX5_set : MethodName := ⟨RX5, "set", "(III)I"⟩
abbrev cX5_turn : ByteArray := prog_1_method_5_code
def yX5_turn : MethodName := ⟨RX5, "turn", "(II)I"⟩
abbrev cX5_as : ByteArray := prog_1_method_6_code
def yX5_as : MethodName := ⟨RX5, "as", "(II)I"⟩
abbrev cX5_date : ByteArray := prog_1_method_7_code
def yX5_date : MethodName := ⟨RX5, "date", "(III)I"⟩
abbrev cX5_law : ByteArray := prog_1_method_8_code
def yX5_law : MethodName := ⟨RX5, "law", "(II)I"⟩
abbrev cX5_pilgrim : ByteArray := prog_1_method_9_code
def yX5_pilgrim : MethodName := ⟨RX5, "pilgrim", "(II)I"⟩
abbrev cX5_about : ByteArray := prog_1_method_10_code
def yX5_about : MethodName := ⟨RX5, "about", "(II)I"⟩
abbrev cX5_mind : ByteArray := prog_1_method_11_code
def yX5_mind : MethodName := ⟨RX5, "mind", "(III)I"⟩
abbrev cX5_drink : ByteArray := prog_1_method_12_code
def yX5_drink : MethodName := ⟨RX5, "drink", "(II)I"⟩
abbrev cX5_bathe : ByteArray := prog_1_method_13_code
def yX5_bathe : MethodName := ⟨RX5, "bathe", "(I)I"⟩
abbrev cX5_days : ByteArray := prog_1_method_14_code
def yX5_days : MethodName := ⟨RX5, "days", "(I)I"⟩
abbrev cX5_now : ByteArray := prog_1_method_15_code
def yX5_now : MethodName := ⟨RX5, "now", "(I)I"⟩
abbrev cX5_on : ByteArray := prog_1_method_16_code
def yX5_on : MethodName := ⟨RX5, "on", "(III)I"⟩
abbrev cX5_well : ByteArray := prog_1_method_17_code
def yX5_well : MethodName := ⟨RX5, "well", "(I)I"⟩
abbrev cX5_next : ByteArray := prog_1_method_18_code
def yX5_next : MethodName := ⟨RX5, "next", "(I)I"⟩
abbrev cX5_agree : ByteArray := prog_1_method_19_code
def yX5_agree : MethodName := ⟨RX5, "agree", "(III)I"⟩
abbrev cX5_row : ByteArray := prog_1_method_20_code
def yX5_row : MethodName := ⟨RX5, "row", "(III)I"⟩
abbrev cX5_meet : ByteArray := prog_1_method_21_code
def yX5_meet : MethodName := ⟨RX5, "meet", "(I)I"⟩
abbrev cX5_both : ByteArray := prog_1_method_22_code
def yX5_both : MethodName := ⟨RX5, "both", "(IIII)I"⟩
abbrev cX5_trust : ByteArray := prog_1_method_23_code
def yX5_trust : MethodName := ⟨RX5, "trust", "(I)I"⟩
abbrev cX5_truth : ByteArray := prog_1_method_24_code
def yX5_truth : MethodName := ⟨RX5, "truth", "(I)I"⟩
abbrev cX5_cure : ByteArray := prog_1_method_25_code
def yX5_cure : MethodName := ⟨RX5, "cure", "(I)I"⟩
abbrev cX5_kind : ByteArray := prog_1_method_26_code
def yX5_kind : MethodName := ⟨RX5, "kind", "(II)I"⟩
abbrev cX5_begin : ByteArray := prog_1_method_27_code
def yX5_begin : MethodName := ⟨RX5, "begin", "(II)I"⟩
abbrev cX5_power : ByteArray := prog_1_method_28_code
def yX5_power : MethodName := ⟨RX5, "power", "(I)I"⟩
abbrev cX5_feed : ByteArray := prog_1_method_29_code
def yX5_feed : MethodName := ⟨RX5, "feed", "(II)I"⟩
abbrev cX5_wipe : ByteArray := prog_1_method_30_code
def yX5_wipe : MethodName := ⟨RX5, "wipe", "()I"⟩
abbrev cX5_spring : ByteArray := prog_1_method_31_code
def yX5_spring : MethodName := ⟨RX5, "spring", "()I"⟩
abbrev cX5_sheet : ByteArray := prog_1_method_32_code
def yX5_sheet : MethodName := ⟨RX5, "sheet", "(III)I"⟩
abbrev cX5_write : ByteArray := prog_1_method_33_code
def yX5_write : MethodName := ⟨RX5, "write", "(IIJ)J"⟩
abbrev cX5_copy : ByteArray := prog_1_method_34_code
def yX5_copy : MethodName := ⟨RX5, "copy", "(IIIII)I"⟩
abbrev cX5_lays : ByteArray := prog_1_method_35_code
def yX5_lays : MethodName := ⟨RX5, "lays", "(I)I"⟩
abbrev cX5_book : ByteArray := prog_1_method_36_code
def yX5_book : MethodName := ⟨RX5, "book", "(II)I"⟩
abbrev cX5_read : ByteArray := prog_1_method_37_code
def yX5_read : MethodName := ⟨RX5, "read", "(II)I"⟩
abbrev cX5_image : ByteArray := prog_1_method_38_code
def yX5_image : MethodName := ⟨RX5, "image", "()I"⟩
abbrev cX5_undo : ByteArray := prog_1_method_39_code
def yX5_undo : MethodName := ⟨RX5, "undo", "()I"⟩
abbrev cX5_tear : ByteArray := prog_1_method_40_code
def yX5_tear : MethodName := ⟨RX5, "tear", "()I"⟩
abbrev cX5_count : ByteArray := prog_1_method_41_code
def yX5_count : MethodName := ⟨RX5, "count", "(I)I"⟩
abbrev cX5_status : ByteArray := prog_1_method_42_code
def yX5_status : MethodName := ⟨RX5, "status", "(I)I"⟩
abbrev cX5_found : ByteArray := prog_1_method_43_code
def yX5_found : MethodName := ⟨RX5, "found", "(I)I"⟩
abbrev cX5_sheetAt : ByteArray := prog_1_method_44_code
def yX5_sheetAt : MethodName := ⟨RX5, "sheetAt", "(I)LEvenSpring$Sheet;"⟩
abbrev cX5_lookAhead : ByteArray := prog_1_method_45_code
def yX5_lookAhead : MethodName := ⟨RX5, "lookAhead", "(I)V"⟩
abbrev cX5_agreeAhead : ByteArray := prog_1_method_46_code
def yX5_agreeAhead : MethodName := ⟨RX5, "agreeAhead", "(III)Z"⟩
abbrev cX5_tryDays : ByteArray := prog_1_method_47_code
def yX5_tryDays : MethodName := ⟨RX5, "tryDays", "(LEvenSpring$Pilgrim;III)V"⟩
abbrev cX5_daysToWell : ByteArray := prog_1_method_48_code
def yX5_daysToWell : MethodName := ⟨RX5, "daysToWell", "(LEvenSpring$Pilgrim;I)I"⟩
abbrev cX5_illOfAllAhead : ByteArray := prog_1_method_49_code
def yX5_illOfAllAhead : MethodName := ⟨RX5, "illOfAllAhead", "(II)I"⟩
abbrev cX5_wellAhead : ByteArray := prog_1_method_50_code
def yX5_wellAhead : MethodName := ⟨RX5, "wellAhead", "(II)I"⟩
abbrev cX5_bestValue : ByteArray := prog_1_method_51_code
def yX5_bestValue : MethodName := ⟨RX5, "bestValue", "(IIII)I"⟩
abbrev cX5_agreementsOfTried : ByteArray := prog_1_method_52_code
def yX5_agreementsOfTried : MethodName := ⟨RX5, "agreementsOfTried", "(I)I"⟩
abbrev cX5_makesJustSo : ByteArray := prog_1_method_53_code
def yX5_makesJustSo : MethodName := ⟨RX5, "makesJustSo", "(LEvenSpring$Sheet;LEvenSpring$Pilgrim;II)Z"⟩
abbrev cX5_within : ByteArray := prog_1_method_54_code
def yX5_within : MethodName := ⟨RX5, "within", "(III)Z"⟩
abbrev cX5_isIn : ByteArray := prog_1_method_55_code
def yX5_isIn : MethodName := ⟨RX5, "isIn", "(II)Z"⟩
def RX6 : String := "EvenSpringModel"
def TX6 : u_T := fun k => match k with
  | 0 => ("EvenSpringModel", "s", "[I", true)
  | 1 => ("EvenSpringModel", "keptS", "[I", true)
  | 2 => ("EvenSpringModel", "other", "[I", true)
  | 3 => ("EvenSpringModel", "aside", "[I", true)
  | 4 => ("EvenSpringModel", "statuses", "[I", true)
  | 5 => ("EvenSpringModel", "isKept", "Z", false)
  | 6 => ("EvenSpringModel", "tape", "[I", true)
  | 7 => ("EvenSpringModel", "taped", "I", false)
  | 8 => ("EvenSpringModel", "from", "I", false)
  | 9 => ("EvenSpringModel", "to", "I", false)
  | 10 => ("EvenSpringModel", "value", "I", false)
  | 11 => ("EvenSpringModel", "isWrong", "Z", false)
  | 12 => ("EvenSpringModel", "bitsOf", "[I", true)
  | 13 => ("EvenSpringModel", "sizeOf", "[I", true)
  | 14 => ("EvenSpringModel", "numbers", "[J", true)
  | _ => ("EvenSpringModel", "moved", "[J", true)
def tyX6 : Nat → FieldType := fun k => match k with
  | 0 => .array .int
  | 1 => .array .int
  | 2 => .array .int
  | 3 => .array .int
  | 4 => .array .int
  | 5 => .boolean
  | 6 => .array .int
  | 7 => .int
  | 8 => .int
  | 9 => .int
  | 10 => .int
  | 11 => .boolean
  | 12 => .array .int
  | 13 => .array .int
  | 14 => .array .long
  | _ => .array .long
abbrev wsX60 : List Cond := u_ws RX6 TX6 16
theorem nmX6 : ∀ a, a < 16 → ∀ b, b < 16 → a ≠ b → (TX6 a).2.1 ≠ (TX6 b).2.1 := by decide +kernel
theorem tyX6_ok : ∀ k, k < 16 → parseFieldDescriptor (TX6 k).2.2.1 = some (tyX6 k) := by decide +kernel
abbrev cX6_init : ByteArray := prog_8_method_1_code
def yX6_init : MethodName := ⟨RX6, "<init>", "()V"⟩
abbrev cX6_in : ByteArray := prog_8_method_2_code
def yX6_in : MethodName := ⟨RX6, "in", "(JJJ)Z"⟩
abbrev cX6_finds : ByteArray := prog_8_method_3_code
def yX6_finds : MethodName := ⟨RX6, "finds", "(I)I"⟩
abbrev cX6_saves : ByteArray := prog_8_method_4_code
def yX6_saves : MethodName := ⟨RX6, "saves", "()V"⟩
abbrev cX6_putsBack : ByteArray := prog_8_method_5_code
def yX6_putsBack : MethodName := ⟨RX6, "putsBack", "()V"⟩
abbrev cX6_laysAside : ByteArray := prog_8_method_6_code
def yX6_laysAside : MethodName := ⟨RX6, "laysAside", "()V"⟩
abbrev cX6_takesBack : ByteArray := prog_8_method_7_code
def yX6_takesBack : MethodName := ⟨RX6, "takesBack", "(I)I"⟩
abbrev cX6_becomes : ByteArray := prog_8_method_8_code
def yX6_becomes : MethodName := ⟨RX6, "becomes", "(II)I"⟩
abbrev cX6_isCalendar : ByteArray := prog_8_method_9_code
def yX6_isCalendar : MethodName := ⟨RX6, "isCalendar", "(I)Z"⟩
abbrev cX6_areTwo : ByteArray := prog_8_method_10_code
def yX6_areTwo : MethodName := ⟨RX6, "areTwo", "(II)Z"⟩
abbrev cX6_isPilgrim : ByteArray := prog_8_method_11_code
def yX6_isPilgrim : MethodName := ⟨RX6, "isPilgrim", "(I)Z"⟩
abbrev cX6_isKind : ByteArray := prog_8_method_12_code
def yX6_isKind : MethodName := ⟨RX6, "isKind", "(I)Z"⟩
abbrev cX6_its : ByteArray := prog_8_method_13_code
def yX6_its : MethodName := ⟨RX6, "its", "(II)I"⟩
abbrev cX6_spot : ByteArray := prog_8_method_14_code
def yX6_spot : MethodName := ⟨RX6, "spot", "(II)I"⟩
abbrev cX6_isOf : ByteArray := prog_8_method_15_code
def yX6_isOf : MethodName := ⟨RX6, "isOf", "(II)I"⟩
abbrev cX6_adds : ByteArray := prog_8_method_16_code
def yX6_adds : MethodName := ⟨RX6, "adds", "(I)I"⟩
abbrev cX6_calendar : ByteArray := prog_8_method_17_code
def yX6_calendar : MethodName := ⟨RX6, "calendar", "(I)I"⟩
abbrev cX6_of : ByteArray := prog_8_method_18_code
def yX6_of : MethodName := ⟨RX6, "of", "(II)I"⟩
abbrev cX6_isPart : ByteArray := prog_8_method_19_code
def yX6_isPart : MethodName := ⟨RX6, "isPart", "(II)Z"⟩
abbrev cX6_set : ByteArray := prog_8_method_20_code
def yX6_set : MethodName := ⟨RX6, "set", "(III)I"⟩
abbrev cX6_turn : ByteArray := prog_8_method_21_code
def yX6_turn : MethodName := ⟨RX6, "turn", "(II)I"⟩
abbrev cX6_isUnder : ByteArray := prog_8_method_22_code
def yX6_isUnder : MethodName := ⟨RX6, "isUnder", "(II)Z"⟩
abbrev cX6_as : ByteArray := prog_8_method_23_code
def yX6_as : MethodName := ⟨RX6, "as", "(II)I"⟩
abbrev cX6_runs : ByteArray := prog_8_method_24_code
def yX6_runs : MethodName := ⟨RX6, "runs", "(II)I"⟩
abbrev cX6_dateOf : ByteArray := prog_8_method_25_code
def yX6_dateOf : MethodName := ⟨RX6, "dateOf", "(II)I"⟩
abbrev cX6_monthOf : ByteArray := prog_8_method_26_code
def yX6_monthOf : MethodName := ⟨RX6, "monthOf", "(II)I"⟩
abbrev cX6_isHoly : ByteArray := prog_8_method_27_code
def yX6_isHoly : MethodName := ⟨RX6, "isHoly", "(II)Z"⟩
abbrev cX6_date : ByteArray := prog_8_method_28_code
def yX6_date : MethodName := ⟨RX6, "date", "(III)I"⟩
abbrev cX6_law : ByteArray := prog_8_method_29_code
def yX6_law : MethodName := ⟨RX6, "law", "(II)I"⟩
abbrev cX6_comes : ByteArray := prog_8_method_30_code
def yX6_comes : MethodName := ⟨RX6, "comes", "(II)I"⟩
abbrev cX6_isTrust : ByteArray := prog_8_method_31_code
def yX6_isTrust : MethodName := ⟨RX6, "isTrust", "(I)Z"⟩
abbrev cX6_pilgrim : ByteArray := prog_8_method_32_code
def yX6_pilgrim : MethodName := ⟨RX6, "pilgrim", "(II)I"⟩
abbrev cX6_about : ByteArray := prog_8_method_33_code
def yX6_about : MethodName := ⟨RX6, "about", "(II)I"⟩
abbrev cX6_mind : ByteArray := prog_8_method_34_code
def yX6_mind : MethodName := ⟨RX6, "mind", "(III)I"⟩
abbrev cX6_helps : ByteArray := prog_8_method_35_code
def yX6_helps : MethodName := ⟨RX6, "helps", "(IZ)V"⟩
abbrev cX6_drink : ByteArray := prog_8_method_36_code
def yX6_drink : MethodName := ⟨RX6, "drink", "(II)I"⟩
abbrev cX6_bathes : ByteArray := prog_8_method_37_code
def yX6_bathes : MethodName := ⟨RX6, "bathes", "(I)V"⟩
abbrev cX6_bathe : ByteArray := prog_8_method_38_code
def yX6_bathe : MethodName := ⟨RX6, "bathe", "(I)I"⟩
abbrev cX6_day : ByteArray := prog_8_method_39_code
def yX6_day : MethodName := ⟨RX6, "day", "()V"⟩
abbrev cX6_goesOn : ByteArray := prog_8_method_40_code
def yX6_goesOn : MethodName := ⟨RX6, "goesOn", "(I)V"⟩
abbrev cX6_wellOnes : ByteArray := prog_8_method_41_code
def yX6_wellOnes : MethodName := ⟨RX6, "wellOnes", "()I"⟩
abbrev cX6_ones : ByteArray := prog_8_method_42_code
def yX6_ones : MethodName := ⟨RX6, "ones", "(I)I"⟩
abbrev cX6_days : ByteArray := prog_8_method_43_code
def yX6_days : MethodName := ⟨RX6, "days", "(I)I"⟩
abbrev cX6_together : ByteArray := prog_8_method_44_code
def yX6_together : MethodName := ⟨RX6, "together", "(I)I"⟩
abbrev cX6_now : ByteArray := prog_8_method_45_code
def yX6_now : MethodName := ⟨RX6, "now", "(I)I"⟩
abbrev cX6_on : ByteArray := prog_8_method_46_code
def yX6_on : MethodName := ⟨RX6, "on", "(III)I"⟩
abbrev cX6_wellIn : ByteArray := prog_8_method_47_code
def yX6_wellIn : MethodName := ⟨RX6, "wellIn", "(I)I"⟩
abbrev cX6_well : ByteArray := prog_8_method_48_code
def yX6_well : MethodName := ⟨RX6, "well", "(I)I"⟩
abbrev cX6_next : ByteArray := prog_8_method_49_code
def yX6_next : MethodName := ⟨RX6, "next", "(I)I"⟩
abbrev cX6_isAgreed : ByteArray := prog_8_method_50_code
def yX6_isAgreed : MethodName := ⟨RX6, "isAgreed", "(III)Z"⟩
abbrev cX6_agreed : ByteArray := prog_8_method_51_code
def yX6_agreed : MethodName := ⟨RX6, "agreed", "(III)I"⟩
abbrev cX6_agree : ByteArray := prog_8_method_52_code
def yX6_agree : MethodName := ⟨RX6, "agree", "(III)I"⟩
abbrev cX6_row : ByteArray := prog_8_method_53_code
def yX6_row : MethodName := ⟨RX6, "row", "(III)I"⟩
abbrev cX6_holyBy : ByteArray := prog_8_method_54_code
def yX6_holyBy : MethodName := ⟨RX6, "holyBy", "(I)I"⟩
abbrev cX6_meet : ByteArray := prog_8_method_55_code
def yX6_meet : MethodName := ⟨RX6, "meet", "(I)I"⟩
abbrev cX6_isDate : ByteArray := prog_8_method_56_code
def yX6_isDate : MethodName := ⟨RX6, "isDate", "(I)Z"⟩
abbrev cX6_both : ByteArray := prog_8_method_57_code
def yX6_both : MethodName := ⟨RX6, "both", "(IIII)I"⟩
abbrev cX6_trust : ByteArray := prog_8_method_58_code
def yX6_trust : MethodName := ⟨RX6, "trust", "(I)I"⟩
abbrev cX6_truth : ByteArray := prog_8_method_59_code
def yX6_truth : MethodName := ⟨RX6, "truth", "(I)I"⟩
abbrev cX6_cure : ByteArray := prog_8_method_60_code
def yX6_cure : MethodName := ⟨RX6, "cure", "(I)I"⟩
abbrev cX6_mostAgreed : ByteArray := prog_8_method_61_code
def yX6_mostAgreed : MethodName := ⟨RX6, "mostAgreed", "(IIII)I"⟩
abbrev cX6_kind : ByteArray := prog_8_method_62_code
def yX6_kind : MethodName := ⟨RX6, "kind", "(II)I"⟩
abbrev cX6_begin : ByteArray := prog_8_method_63_code
def yX6_begin : MethodName := ⟨RX6, "begin", "(II)I"⟩
abbrev cX6_power : ByteArray := prog_8_method_64_code
def yX6_power : MethodName := ⟨RX6, "power", "(I)I"⟩
abbrev cX6_feed : ByteArray := prog_8_method_65_code
def yX6_feed : MethodName := ⟨RX6, "feed", "(II)I"⟩
abbrev cX6_wipe : ByteArray := prog_8_method_66_code
def yX6_wipe : MethodName := ⟨RX6, "wipe", "()I"⟩
abbrev cX6_byteAt : ByteArray := prog_8_method_67_code
def yX6_byteAt : MethodName := ⟨RX6, "byteAt", "(I)I"⟩
abbrev cX6_isLetter : ByteArray := prog_8_method_68_code
def yX6_isLetter : MethodName := ⟨RX6, "isLetter", "(I)Z"⟩
abbrev cX6_isDigit : ByteArray := prog_8_method_69_code
def yX6_isDigit : MethodName := ⟨RX6, "isDigit", "(I)Z"⟩
abbrev cX6_token : ByteArray := prog_8_method_70_code
def yX6_token : MethodName := ⟨RX6, "token", "()V"⟩
abbrev cX6_must : ByteArray := prog_8_method_71_code
def yX6_must : MethodName := ⟨RX6, "must", "(Z)V"⟩
abbrev cX6_word : ByteArray := prog_8_method_72_code
def yX6_word : MethodName := ⟨RX6, "word", "()J"⟩
abbrev cX6_number : ByteArray := prog_8_method_73_code
def yX6_number : MethodName := ⟨RX6, "number", "(II)V"⟩
abbrev cX6_kindHere : ByteArray := prog_8_method_74_code
def yX6_kindHere : MethodName := ⟨RX6, "kindHere", "()I"⟩
abbrev cX6_partItem : ByteArray := prog_8_method_75_code
def yX6_partItem : MethodName := ⟨RX6, "partItem", "(JIII)V"⟩
abbrev cX6_calendarItem : ByteArray := prog_8_method_76_code
def yX6_calendarItem : MethodName := ⟨RX6, "calendarItem", "(I)V"⟩
abbrev cX6_pilgrimItem : ByteArray := prog_8_method_77_code
def yX6_pilgrimItem : MethodName := ⟨RX6, "pilgrimItem", "()V"⟩
abbrev cX6_item : ByteArray := prog_8_method_78_code
def yX6_item : MethodName := ⟨RX6, "item", "()V"⟩
abbrev cX6_spring : ByteArray := prog_8_method_79_code
def yX6_spring : MethodName := ⟨RX6, "spring", "()I"⟩
abbrev cX6_isOne : ByteArray := prog_8_method_80_code
def yX6_isOne : MethodName := ⟨RX6, "isOne", "(I)Z"⟩
abbrev cX6_sheet : ByteArray := prog_8_method_81_code
def yX6_sheet : MethodName := ⟨RX6, "sheet", "(III)I"⟩
abbrev cX6_narrowed : ByteArray := prog_8_method_82_code
def yX6_narrowed : MethodName := ⟨RX6, "narrowed", "(IJ)J"⟩
abbrev cX6_wrongSheet : ByteArray := prog_8_method_83_code
def yX6_wrongSheet : MethodName := ⟨RX6, "wrongSheet", "(I)I"⟩
abbrev cX6_write : ByteArray := prog_8_method_84_code
def yX6_write : MethodName := ⟨RX6, "write", "(IIJ)J"⟩
abbrev cX6_copy : ByteArray := prog_8_method_85_code
def yX6_copy : MethodName := ⟨RX6, "copy", "(IIIII)I"⟩
abbrev cX6_lays : ByteArray := prog_8_method_86_code
def yX6_lays : MethodName := ⟨RX6, "lays", "(I)I"⟩
abbrev cX6_wrongBook : ByteArray := prog_8_method_87_code
def yX6_wrongBook : MethodName := ⟨RX6, "wrongBook", "(II)I"⟩
abbrev cX6_book : ByteArray := prog_8_method_88_code
def yX6_book : MethodName := ⟨RX6, "book", "(II)I"⟩
abbrev cX6_isBook : ByteArray := prog_8_method_89_code
def yX6_isBook : MethodName := ⟨RX6, "isBook", "(II)Z"⟩
abbrev cX6_read : ByteArray := prog_8_method_90_code
def yX6_read : MethodName := ⟨RX6, "read", "(II)I"⟩
abbrev cX6_image : ByteArray := prog_8_method_91_code
def yX6_image : MethodName := ⟨RX6, "image", "()I"⟩
abbrev cX6_undo : ByteArray := prog_8_method_92_code
def yX6_undo : MethodName := ⟨RX6, "undo", "()I"⟩
abbrev cX6_tear : ByteArray := prog_8_method_93_code
def yX6_tear : MethodName := ⟨RX6, "tear", "()I"⟩
abbrev cX6_count : ByteArray := prog_8_method_94_code
def yX6_count : MethodName := ⟨RX6, "count", "(I)I"⟩
abbrev cX6_status : ByteArray := prog_8_method_95_code
def yX6_status : MethodName := ⟨RX6, "status", "(I)I"⟩
def RJ6 : String := "java/lang/Integer"
def TJ6 : u_T := fun k => match k with
  | _ => ("", "", "", false)
def tyJ6 : Nat → FieldType := fun k => match k with
  | _ => .int
abbrev wsJ60 : List Cond := u_ws RJ6 TJ6 0
theorem nmJ6 : ∀ a, a < 0 → ∀ b, b < 0 → a ≠ b → (TJ6 a).2.1 ≠ (TJ6 b).2.1 := by decide +kernel
theorem tyJ6_ok : ∀ k, k < 0 → parseFieldDescriptor (TJ6 k).2.2.1 = some (tyJ6 k) := by decide +kernel
abbrev cJ6_bitCount_0f7a4 : ByteArray := prog_9_method_49_code
def yJ6_bitCount_0f7a4 : MethodName := ⟨RJ6, "bitCount", "(I)I"⟩
def RJ9 : String := "java/lang/Math"
def TJ9 : u_T := fun k => match k with
  | _ => ("", "", "", false)
def tyJ9 : Nat → FieldType := fun k => match k with
  | _ => .int
abbrev wsJ90 : List Cond := u_ws RJ9 TJ9 0
theorem nmJ9 : ∀ a, a < 0 → ∀ b, b < 0 → a ≠ b → (TJ9 a).2.1 ≠ (TJ9 b).2.1 := by decide +kernel
theorem tyJ9_ok : ∀ k, k < 0 → parseFieldDescriptor (TJ9 k).2.2.1 = some (tyJ9 k) := by decide +kernel
abbrev cJ9_max_7cf53 : ByteArray := prog_10_method_65_code
def yJ9_max_7cf53 : MethodName := ⟨RJ9, "max", "(II)I"⟩
abbrev cJ9_min_7cf53 : ByteArray := prog_10_method_69_code
def yJ9_min_7cf53 : MethodName := ⟨RJ9, "min", "(II)I"⟩
def RJ0 : String := "java/lang/String"
def TJ0 : u_T := fun k => match k with
  | _ => ("", "", "", false)
def tyJ0 : Nat → FieldType := fun k => match k with
  | _ => .int
abbrev wsJ00 : List Cond := u_ws RJ0 TJ0 0
theorem nmJ0 : ∀ a, a < 0 → ∀ b, b < 0 → a ≠ b → (TJ0 a).2.1 ≠ (TJ0 b).2.1 := by decide +kernel
theorem tyJ0_ok : ∀ k, k < 0 → parseFieldDescriptor (TJ0 k).2.2.1 = some (tyJ0 k) := by decide +kernel
abbrev cJ0_length_8abf5 : ByteArray := prog_11_method_54_code
def yJ0_length_8abf5 : MethodName := ⟨RJ0, "length", "()I"⟩
abbrev cJ0_charAt_5068e : ByteArray := prog_11_method_56_code
def yJ0_charAt_5068e : MethodName := ⟨RJ0, "charAt", "(I)C"⟩
abbrev cJ0_coder_7d493 : ByteArray := prog_11_method_152_code
def yJ0_coder_7d493 : MethodName := ⟨RJ0, "coder", "()B"⟩
abbrev cJ0_isLatin1_aae02 : ByteArray := prog_11_method_154_code
def yJ0_isLatin1_aae02 : MethodName := ⟨RJ0, "isLatin1", "()Z"⟩
abbrev cJ0_checkIndex_df160 : ByteArray := prog_11_method_155_code
def yJ0_checkIndex_df160 : MethodName := ⟨RJ0, "checkIndex", "(II)V"⟩
def RJ1 : String := "java/lang/StringLatin1"
def TJ1 : u_T := fun k => match k with
  | _ => ("", "", "", false)
def tyJ1 : Nat → FieldType := fun k => match k with
  | _ => .int
abbrev wsJ10 : List Cond := u_ws RJ1 TJ1 0
theorem nmJ1 : ∀ a, a < 0 → ∀ b, b < 0 → a ≠ b → (TJ1 a).2.1 ≠ (TJ1 b).2.1 := by decide +kernel
theorem tyJ1_ok : ∀ k, k < 0 → parseFieldDescriptor (TJ1 k).2.2.1 = some (tyJ1 k) := by decide +kernel
abbrev cJ1_charAt_3b067 : ByteArray := prog_12_method_2_code
def yJ1_charAt_3b067 : MethodName := ⟨RJ1, "charAt", "([BI)C"⟩
def RJ2 : String := "java/lang/StringUTF16"
def TJ2 : u_T := fun k => match k with
  | _ => ("", "", "", false)
def tyJ2 : Nat → FieldType := fun k => match k with
  | _ => .int
abbrev wsJ20 : List Cond := u_ws RJ2 TJ2 0
theorem nmJ2 : ∀ a, a < 0 → ∀ b, b < 0 → a ≠ b → (TJ2 a).2.1 ≠ (TJ2 b).2.1 := by decide +kernel
theorem tyJ2_ok : ∀ k, k < 0 → parseFieldDescriptor (TJ2 k).2.2.1 = some (tyJ2 k) := by decide +kernel
abbrev cJ2_getChar_3b067 : ByteArray := prog_13_method_5_code
def yJ2_getChar_3b067 : MethodName := ⟨RJ2, "getChar", "([BI)C"⟩
abbrev cJ2_length_9d52b : ByteArray := prog_13_method_6_code
def yJ2_length_9d52b : MethodName := ⟨RJ2, "length", "([B)I"⟩
abbrev cJ2_charAt_3b067 : ByteArray := prog_13_method_83_code
def yJ2_charAt_3b067 : MethodName := ⟨RJ2, "charAt", "([BI)C"⟩
abbrev cJ2_checkIndex_2214a : ByteArray := prog_13_method_91_code
def yJ2_checkIndex_2214a : MethodName := ⟨RJ2, "checkIndex", "(I[B)V"⟩
def RJ10 : String := "java/lang/System"
def TJ10 : u_T := fun k => match k with
  | _ => ("", "", "", false)
def tyJ10 : Nat → FieldType := fun k => match k with
  | _ => .int
abbrev wsJ100 : List Cond := u_ws RJ10 TJ10 0
theorem nmJ10 : ∀ a, a < 0 → ∀ b, b < 0 → a ≠ b → (TJ10 a).2.1 ≠ (TJ10 b).2.1 := by decide +kernel
theorem tyJ10_ok : ∀ k, k < 0 → parseFieldDescriptor (TJ10 k).2.2.1 = some (tyJ10 k) := by decide +kernel
def RJ3 : String := "jdk/internal/util/Preconditions"
def TJ3 : u_T := fun k => match k with
  | _ => ("", "", "", false)
def tyJ3 : Nat → FieldType := fun k => match k with
  | _ => .int
abbrev wsJ30 : List Cond := u_ws RJ3 TJ3 0
theorem nmJ3 : ∀ a, a < 0 → ∀ b, b < 0 → a ≠ b → (TJ3 a).2.1 ≠ (TJ3 b).2.1 := by decide +kernel
theorem tyJ3_ok : ∀ k, k < 0 → parseFieldDescriptor (TJ3 k).2.2.1 = some (tyJ3 k) := by decide +kernel
abbrev cJ3_checkIndex_8e157 : ByteArray := prog_15_method_11_code
def yJ3_checkIndex_8e157 : MethodName := ⟨RJ3, "checkIndex", "(IILjava/util/function/BiFunction;)I"⟩
def RL : String := "EvenSpringLaw"
abbrev cL_law : ByteArray := code
def yL_law : MethodName := ⟨RL, "law", "([I)Z"⟩
def wsL_law_r1 : List Cond := [Cond.classLink RL 7 RX5, Cond.instantiable RX5 9, Cond.initialized RX5, Cond.classLink RL 10 RX6, Cond.instantiable RX6 16, Cond.initialized RX6, Cond.constantLong RL 142 (4294967295), Cond.methodLink RL 9 yX5_init, Cond.instanceMethod yX5_init, Cond.code yX5_init cX5_init 2 none, Cond.methodLink RX5 3 objectInit, Cond.instanceMethod objectInit, Cond.code objectInit ⟨#[0xb1]⟩ 1 none, Cond.classLink RX5 9 RX3, Cond.instantiable RX3 9, Cond.initialized RX3, Cond.fieldLink RX5 12 "EvenSpring" "here" "LEvenSpring$Spring;", Cond.fieldLink RX5 16 "EvenSpring" "kept" "LEvenSpring$Spring;", Cond.classLink RX5 19 RX4, Cond.instantiable RX4 7, Cond.initialized RX4, Cond.fieldLink RX5 22 "EvenSpring" "text" "LEvenSpring$SpringText;", Cond.classLink RX5 26 RX2, Cond.fieldLink RX5 28 "EvenSpring" "sheets" "[LEvenSpring$Sheet;"]
def wsL_law_r2 : List Cond := [Cond.arrayClass .int, Cond.fieldLink RX5 32 "EvenSpring" "findings" "[I", Cond.fieldLink RX5 36 "EvenSpring" "ahead" "[I", Cond.classLink RX5 39 RX1, Cond.instantiable RX1 3, Cond.initialized RX1, Cond.fieldLink RX5 42 "EvenSpring" "trial" "LEvenSpring$Pilgrim;", Cond.classLink RX5 46 RX0, Cond.instantiable RX0 1, Cond.initialized RX0, Cond.fieldLink RX5 49 "EvenSpring" "tried" "LEvenSpring$Calendar;", Cond.instantiable RX2 3, Cond.initialized RX2, Cond.methodLink RX5 11 yX3_init, Cond.instanceMethod yX3_init, Cond.code yX3_init cX3_init 2 none, Cond.methodLink RX3 3 objectInit, Cond.fieldLink RX3 9 "EvenSpring$Spring" "power" "I", Cond.classLink RX3 15 RX0, Cond.fieldLink RX3 17 "EvenSpring$Spring" "calendars" "[LEvenSpring$Calendar;", Cond.classLink RX3 21 RX1, Cond.fieldLink RX3 23 "EvenSpring$Spring" "pilgrims" "[LEvenSpring$Pilgrim;", Cond.instanceMethod yX0_init, Cond.code yX0_init cX0_init 1 none]
def wsL_law_r3 : List Cond := [Cond.methodLink RX0 3 objectInit, Cond.fieldLink RX0 11 "EvenSpring$Calendar" "fields" "[I", Cond.instanceMethod yX1_init, Cond.code yX1_init cX1_init 1 none, Cond.methodLink RX1 3 objectInit, Cond.instanceMethod yX4_init, Cond.code yX4_init cX4_init 1 none, Cond.methodLink RX4 3 objectInit, Cond.arrayClass .byte, Cond.fieldLink RX4 9 "EvenSpring$SpringText" "tape" "[B", Cond.classLink RX4 15 RX3, Cond.fieldLink RX4 18 "EvenSpring$SpringText" "told" "LEvenSpring$Spring;", Cond.methodLink RX4 17 yX3_init, Cond.instanceMethod yX2_init, Cond.code yX2_init cX2_init 1 none, Cond.methodLink RX2 3 objectInit, Cond.arrayClass .long, Cond.fieldLink RX2 9 "EvenSpring$Sheet" "numbers" "[J", Cond.methodLink RL 12 yX6_init, Cond.instanceMethod yX6_init, Cond.code yX6_init cX6_init 1 none, Cond.methodLink RX6 1 objectInit, Cond.fieldLink RX6 7 "EvenSpringModel" "s" "[I", Cond.fieldLink RX6 13 "EvenSpringModel" "keptS" "[I"]
def wsL_law_r4 : List Cond := [Cond.fieldLink RX6 16 "EvenSpringModel" "other" "[I", Cond.fieldLink RX6 19 "EvenSpringModel" "aside" "[I", Cond.fieldLink RX6 22 "EvenSpringModel" "statuses" "[I", Cond.fieldLink RX6 25 "EvenSpringModel" "tape" "[I", Cond.fieldLink RX6 28 "EvenSpringModel" "bitsOf" "[I", Cond.fieldLink RX6 31 "EvenSpringModel" "sizeOf" "[I", Cond.fieldLink RX6 34 "EvenSpringModel" "numbers" "[J", Cond.fieldLink RX6 38 "EvenSpringModel" "moved" "[J", Cond.methodLink RL 13 yX5_calendar, Cond.instanceMethod yX5_calendar, Cond.selects RX5 yX5_calendar yX5_calendar, Cond.code yX5_calendar cX5_calendar 2 (some .int), Cond.constant RX5 58 (-1000000001), Cond.constant RX5 67 (-1000000002), Cond.methodLink RX5 54 yX0_allows, Cond.static yX0_allows, Cond.code yX0_allows cX0_allows 2 (some .boolean), Cond.fieldLink RX0 19 "EvenSpring$Calendar" "LEAST" "[I", Cond.fieldLink RX0 22 "EvenSpring$Calendar" "MOST" "[I", Cond.methodLink RX0 15 yX0_isField, Cond.static yX0_isField, Cond.code yX0_isField cX0_isField 1 (some .boolean), Cond.methodLink RX5 59 yX5_found, Cond.instanceMethod yX5_found]
def wsL_law_r5 : List Cond := [Cond.selects RX5 yX5_found yX5_found, Cond.code yX5_found cX5_found 3 (some .int), Cond.methodLink RX5 68 yX3_addCalendar, Cond.instanceMethod yX3_addCalendar, Cond.selects RX3 yX3_addCalendar yX3_addCalendar, Cond.code yX3_addCalendar cX3_addCalendar 2 none, Cond.fieldLink RX3 41 "EvenSpring$Spring" "calendarCount" "I", Cond.methodLink RX3 58 yX0_startAs, Cond.instanceMethod yX0_startAs, Cond.selects RX0 yX0_startAs yX0_startAs, Cond.code yX0_startAs cX0_startAs 2 none, Cond.fieldLink RX0 25 "EvenSpring$Calendar" "FIRST" "[I", Cond.methodLink RX0 28 arraycopyName, Cond.native arraycopyName, Cond.static arraycopyName, Cond.initialized "java/lang/System", Cond.methodLink RL 17 yX6_calendar, Cond.instanceMethod yX6_calendar, Cond.selects RX6 yX6_calendar yX6_calendar, Cond.code yX6_calendar cX6_calendar 2 (some .int), Cond.constant RX6 41 (-1000000001), Cond.constant RX6 63 (-1000000002), Cond.methodLink RX6 56 yX6_isKind, Cond.static yX6_isKind]
def wsL_law_r6 : List Cond := [Cond.code yX6_isKind cX6_isKind 1 (some .boolean), Cond.constantLong RX6 50 (5), Cond.methodLink RX6 42 yX6_in, Cond.static yX6_in, Cond.code yX6_in cX6_in 6 (some .boolean), Cond.methodLink RX6 59 yX6_finds, Cond.instanceMethod yX6_finds, Cond.selects RX6 yX6_finds yX6_finds, Cond.code yX6_finds cX6_finds 2 (some .int), Cond.methodLink RX6 64 yX6_adds, Cond.instanceMethod yX6_adds, Cond.selects RX6 yX6_adds yX6_adds, Cond.code yX6_adds cX6_adds 3 (some .int), Cond.methodLink RL 18 yX5_of, Cond.instanceMethod yX5_of, Cond.selects RX5 yX5_of yX5_of, Cond.code yX5_of cX5_of 4 (some .int), Cond.methodLink RX5 72 yX3_calendarAt, Cond.instanceMethod yX3_calendarAt, Cond.selects RX3 yX3_calendarAt yX3_calendarAt, Cond.code yX3_calendarAt cX3_calendarAt 3 (some (.object "EvenSpring$Calendar")), Cond.methodLink RX5 76 yX0_isField, Cond.methodLink RX5 80 yX0_value, Cond.instanceMethod yX0_value]
def wsL_law_r7 : List Cond := [Cond.selects RX0 yX0_value yX0_value, Cond.code yX0_value cX0_value 2 (some .int), Cond.methodLink RL 22 yX6_of, Cond.instanceMethod yX6_of, Cond.selects RX6 yX6_of yX6_of, Cond.code yX6_of cX6_of 3 (some .int), Cond.constantLong RX6 67 (4), Cond.methodLink RX6 46 yX6_isCalendar, Cond.instanceMethod yX6_isCalendar, Cond.selects RX6 yX6_isCalendar yX6_isCalendar, Cond.code yX6_isCalendar cX6_isCalendar 2 (some .boolean), Cond.methodLink RX6 69 yX6_its, Cond.instanceMethod yX6_its, Cond.selects RX6 yX6_its yX6_its, Cond.code yX6_its cX6_its 3 (some .int), Cond.methodLink RL 23 yX5_set, Cond.instanceMethod yX5_set, Cond.selects RX5 yX5_set yX5_set, Cond.code yX5_set cX5_set 5 (some .int), Cond.methodLink RX5 83 yX0_change, Cond.instanceMethod yX0_change, Cond.selects RX0 yX0_change yX0_change, Cond.code yX0_change cX0_change 4 (some .int), Cond.methodLink RX0 34 yX0_allows]
def wsL_law_r8 : List Cond := [Cond.methodLink RL 27 yX6_set, Cond.instanceMethod yX6_set, Cond.selects RX6 yX6_set yX6_set, Cond.code yX6_set cX6_set 4 (some .int), Cond.methodLink RX6 78 yX6_isPart, Cond.static yX6_isPart, Cond.code yX6_isPart cX6_isPart 2 (some .boolean), Cond.constantLong RX6 72 (60), Cond.constantLong RX6 74 (9999), Cond.constantLong RX6 76 (99), Cond.methodLink RX6 82 yX6_becomes, Cond.instanceMethod yX6_becomes, Cond.selects RX6 yX6_becomes yX6_becomes, Cond.code yX6_becomes cX6_becomes 4 (some .int), Cond.methodLink RL 28 yX5_turn, Cond.instanceMethod yX5_turn, Cond.selects RX5 yX5_turn yX5_turn, Cond.code yX5_turn cX5_turn 4 (some .int), Cond.methodLink RL 31 yX6_turn, Cond.instanceMethod yX6_turn, Cond.selects RX6 yX6_turn yX6_turn, Cond.code yX6_turn cX6_turn 3 (some .int), Cond.methodLink RL 32 yX5_as, Cond.instanceMethod yX5_as]
def wsL_law_r9 : List Cond := [Cond.selects RX5 yX5_as yX5_as, Cond.code yX5_as cX5_as 4 (some .int), Cond.constant RX5 90 (-1000000003), Cond.methodLink RX5 87 yX0_isOfKind, Cond.instanceMethod yX0_isOfKind, Cond.selects RX0 yX0_isOfKind yX0_isOfKind, Cond.code yX0_isOfKind cX0_isOfKind 3 (some .boolean), Cond.methodLink RL 35 yX6_as, Cond.instanceMethod yX6_as, Cond.selects RX6 yX6_as yX6_as, Cond.code yX6_as cX6_as 3 (some .int), Cond.constant RX6 88 (-1000000003), Cond.methodLink RX6 85 yX6_isUnder, Cond.static yX6_isUnder, Cond.code yX6_isUnder cX6_isUnder 2 (some .boolean), Cond.methodLink RL 36 yX5_date, Cond.instanceMethod yX5_date, Cond.selects RX5 yX5_date yX5_date, Cond.code yX5_date cX5_date 5 (some .int), Cond.constant RX5 91 (99999), Cond.methodLink RX5 92 yX5_within, Cond.static yX5_within, Cond.code yX5_within cX5_within 3 (some .boolean), Cond.methodLink RX5 96 yX0_dateAt]
def wsL_law_r10 : List Cond := [Cond.instanceMethod yX0_dateAt, Cond.selects RX0 yX0_dateAt yX0_dateAt, Cond.code yX0_dateAt cX0_dateAt 2 (some .int), Cond.methodLink RX0 49 yX0_runsAt, Cond.instanceMethod yX0_runsAt, Cond.selects RX0 yX0_runsAt yX0_runsAt, Cond.code yX0_runsAt cX0_runsAt 3 (some .int), Cond.methodLink RX0 38 yX0_runsAsNew, Cond.instanceMethod yX0_runsAsNew, Cond.selects RX0 yX0_runsAsNew yX0_runsAsNew, Cond.code yX0_runsAsNew cX0_runsAsNew 2 (some .int), Cond.methodLink RX0 42 yX0_length, Cond.instanceMethod yX0_length, Cond.selects RX0 yX0_length yX0_length, Cond.code yX0_length cX0_length 1 (some .int), Cond.methodLink RX0 46 yX0_jugDaysUpTo, Cond.static yX0_jugDaysUpTo, Cond.code yX0_jugDaysUpTo cX0_jugDaysUpTo 1 (some .int), Cond.methodLink RX5 99 yX0_monthAt, Cond.instanceMethod yX0_monthAt, Cond.selects RX0 yX0_monthAt yX0_monthAt, Cond.code yX0_monthAt cX0_monthAt 2 (some .int), Cond.methodLink RX5 102 yX0_isHoly, Cond.instanceMethod yX0_isHoly]
def wsL_law_r11 : List Cond := [Cond.selects RX0 yX0_isHoly yX0_isHoly, Cond.code yX0_isHoly cX0_isHoly 5 (some .boolean), Cond.methodLink RX5 105 yX0_runsAt, Cond.methodLink RL 39 yX6_date, Cond.instanceMethod yX6_date, Cond.selects RX6 yX6_date yX6_date, Cond.code yX6_date cX6_date 4 (some .int), Cond.constantLong RX6 98 (99999), Cond.constantLong RX6 100 (3), Cond.methodLink RX6 92 yX6_dateOf, Cond.instanceMethod yX6_dateOf, Cond.selects RX6 yX6_dateOf yX6_dateOf, Cond.code yX6_dateOf cX6_dateOf 3 (some .int), Cond.methodLink RX6 89 yX6_runs, Cond.instanceMethod yX6_runs, Cond.selects RX6 yX6_runs yX6_runs, Cond.code yX6_runs cX6_runs 5 (some .int), Cond.methodLink RX6 95 yX6_monthOf, Cond.instanceMethod yX6_monthOf, Cond.selects RX6 yX6_monthOf yX6_monthOf, Cond.code yX6_monthOf cX6_monthOf 3 (some .int), Cond.methodLink RX6 102 yX6_isHoly, Cond.instanceMethod yX6_isHoly, Cond.selects RX6 yX6_isHoly yX6_isHoly]
def wsL_law_r12 : List Cond := [Cond.code yX6_isHoly cX6_isHoly 4 (some .boolean), Cond.methodLink RL 40 yX5_law, Cond.instanceMethod yX5_law, Cond.selects RX5 yX5_law yX5_law, Cond.code yX5_law cX5_law 4 (some .int), Cond.methodLink RL 43 yX6_law, Cond.instanceMethod yX6_law, Cond.selects RX6 yX6_law yX6_law, Cond.code yX6_law cX6_law 4 (some .int), Cond.constantLong RX6 105 (50), Cond.methodLink RL 44 yX5_pilgrim, Cond.instanceMethod yX5_pilgrim, Cond.selects RX5 yX5_pilgrim yX5_pilgrim, Cond.code yX5_pilgrim cX5_pilgrim 3 (some .int), Cond.methodLink RX5 114 yX3_canTrust, Cond.instanceMethod yX3_canTrust, Cond.selects RX3 yX3_canTrust yX3_canTrust, Cond.code yX3_canTrust cX3_canTrust 2 (some .boolean), Cond.methodLink RX3 54 yX3_calendarAt, Cond.methodLink RX5 120 yX3_addPilgrim, Cond.instanceMethod yX3_addPilgrim, Cond.selects RX3 yX3_addPilgrim yX3_addPilgrim, Cond.code yX3_addPilgrim cX3_addPilgrim 3 none, Cond.fieldLink RX3 44 "EvenSpring$Spring" "pilgrimCount" "I"]
def wsL_law_r13 : List Cond := [Cond.methodLink RX3 62 yX1_startWith, Cond.instanceMethod yX1_startWith, Cond.selects RX1 yX1_startWith yX1_startWith, Cond.code yX1_startWith cX1_startWith 3 none, Cond.fieldLink RX1 9 "EvenSpring$Pilgrim" "ill" "I", Cond.fieldLink RX1 15 "EvenSpring$Pilgrim" "trusts" "I", Cond.fieldLink RX1 18 "EvenSpring$Pilgrim" "bathed" "I", Cond.methodLink RL 47 yX6_pilgrim, Cond.instanceMethod yX6_pilgrim, Cond.selects RX6 yX6_pilgrim yX6_pilgrim, Cond.code yX6_pilgrim cX6_pilgrim 3 (some .int), Cond.methodLink RX6 107 yX6_isTrust, Cond.instanceMethod yX6_isTrust, Cond.selects RX6 yX6_isTrust yX6_isTrust, Cond.code yX6_isTrust cX6_isTrust 2 (some .boolean), Cond.methodLink RX6 110 yX6_comes, Cond.instanceMethod yX6_comes, Cond.selects RX6 yX6_comes yX6_comes, Cond.code yX6_comes cX6_comes 4 (some .int), Cond.methodLink RX6 52 yX6_spot, Cond.static yX6_spot, Cond.code yX6_spot cX6_spot 2 (some .int), Cond.methodLink RL 48 yX5_about, Cond.instanceMethod yX5_about]
def wsL_law_r14 : List Cond := [Cond.selects RX5 yX5_about yX5_about, Cond.code yX5_about cX5_about 4 (some .int), Cond.methodLink RX5 124 yX3_pilgrimAt, Cond.instanceMethod yX3_pilgrimAt, Cond.selects RX3 yX3_pilgrimAt yX3_pilgrimAt, Cond.code yX3_pilgrimAt cX3_pilgrimAt 3 (some (.object "EvenSpring$Pilgrim")), Cond.methodLink RL 51 yX6_about, Cond.instanceMethod yX6_about, Cond.selects RX6 yX6_about yX6_about, Cond.code yX6_about cX6_about 3 (some .int), Cond.constantLong RX6 116 (2), Cond.methodLink RX6 113 yX6_isPilgrim, Cond.instanceMethod yX6_isPilgrim, Cond.selects RX6 yX6_isPilgrim yX6_isPilgrim, Cond.code yX6_isPilgrim cX6_isPilgrim 2 (some .boolean), Cond.methodLink RX6 118 yX6_isOf, Cond.instanceMethod yX6_isOf, Cond.selects RX6 yX6_isOf yX6_isOf, Cond.code yX6_isOf cX6_isOf 3 (some .int), Cond.methodLink RL 52 yX5_mind, Cond.instanceMethod yX5_mind, Cond.selects RX5 yX5_mind yX5_mind, Cond.code yX5_mind cX5_mind 6 (some .int), Cond.methodLink RL 55 yX6_mind]
def wsL_law_r15 : List Cond := [Cond.instanceMethod yX6_mind, Cond.selects RX6 yX6_mind yX6_mind, Cond.code yX6_mind cX6_mind 5 (some .int), Cond.methodLink RL 56 yX5_drink, Cond.instanceMethod yX5_drink, Cond.selects RX5 yX5_drink yX5_drink, Cond.code yX5_drink cX5_drink 5 (some .int), Cond.constant RX5 141 (-1000000005), Cond.methodLink RX5 137 yX3_takeJug, Cond.instanceMethod yX3_takeJug, Cond.selects RX3 yX3_takeJug yX3_takeJug, Cond.code yX3_takeJug cX3_takeJug 2 (some .boolean), Cond.fieldLink RX3 35 "EvenSpring$Spring" "good" "I", Cond.fieldLink RX3 38 "EvenSpring$Spring" "bad" "I", Cond.methodLink RX5 142 yX1_takeWater, Cond.instanceMethod yX1_takeWater, Cond.selects RX1 yX1_takeWater yX1_takeWater, Cond.code yX1_takeWater cX1_takeWater 3 none, Cond.methodLink RX1 21 Lib.Math.max.name, Cond.static Lib.Math.max.name, Cond.initialized "java/lang/Math", Cond.code Lib.Math.max.name Lib.Math.max.code 2 (some .int), Cond.methodLink RX1 27 Lib.Math.min.name, Cond.static Lib.Math.min.name]
def wsL_law_r16 : List Cond := [Cond.code Lib.Math.min.name Lib.Math.min.code 2 (some .int), Cond.methodLink RL 59 yX6_drink, Cond.instanceMethod yX6_drink, Cond.selects RX6 yX6_drink yX6_drink, Cond.code yX6_drink cX6_drink 4 (some .int), Cond.constant RX6 121 (-1000000005), Cond.methodLink RX6 122 yX6_helps, Cond.instanceMethod yX6_helps, Cond.selects RX6 yX6_helps yX6_helps, Cond.code yX6_helps cX6_helps 4 none, Cond.methodLink RL 60 yX5_bathe, Cond.instanceMethod yX5_bathe, Cond.selects RX5 yX5_bathe yX5_bathe, Cond.code yX5_bathe cX5_bathe 3 (some .int), Cond.methodLink RX5 149 yX3_isHolyBy, Cond.instanceMethod yX3_isHolyBy, Cond.selects RX3 yX3_isHolyBy yX3_isHolyBy, Cond.code yX3_isHolyBy cX3_isHolyBy 4 (some .boolean), Cond.methodLink RX3 66 yX0_isHoly, Cond.methodLink RX5 152 yX1_takeBath, Cond.instanceMethod yX1_takeBath, Cond.selects RX1 yX1_takeBath yX1_takeBath, Cond.code yX1_takeBath cX1_takeBath 3 none, Cond.methodLink RX1 30 yX1_takeWater]
def wsL_law_r17 : List Cond := [Cond.methodLink RL 63 yX6_bathe, Cond.instanceMethod yX6_bathe, Cond.selects RX6 yX6_bathe yX6_bathe, Cond.code yX6_bathe cX6_bathe 2 (some .int), Cond.methodLink RX6 126 yX6_bathes, Cond.instanceMethod yX6_bathes, Cond.selects RX6 yX6_bathes yX6_bathes, Cond.code yX6_bathes cX6_bathes 2 none, Cond.methodLink RL 64 yX5_days, Cond.instanceMethod yX5_days, Cond.selects RX5 yX5_days yX5_days, Cond.code yX5_days cX5_days 3 (some .int), Cond.methodLink RX5 155 yX3_passDay, Cond.instanceMethod yX3_passDay, Cond.selects RX3 yX3_passDay yX3_passDay, Cond.code yX3_passDay cX3_passDay 3 none, Cond.fieldLink RX3 29 "EvenSpring$Spring" "day" "I", Cond.fieldLink RX3 32 "EvenSpring$Spring" "truth" "I", Cond.methodLink RX3 70 yX3_holySet, Cond.instanceMethod yX3_holySet, Cond.selects RX3 yX3_holySet yX3_holySet, Cond.code yX3_holySet cX3_holySet 4 (some .int), Cond.methodLink RX3 74 yX1_passDay, Cond.instanceMethod yX1_passDay]
def wsL_law_r18 : List Cond := [Cond.selects RX1 yX1_passDay yX1_passDay, Cond.code yX1_passDay cX1_passDay 4 none, Cond.static yX5_isIn, Cond.code yX5_isIn cX5_isIn 2 (some .boolean), Cond.methodLink RX1 38 yX1_takeBath, Cond.methodLink RX3 82 yX3_drawJug, Cond.instanceMethod yX3_drawJug, Cond.selects RX3 yX3_drawJug yX3_drawJug, Cond.code yX3_drawJug cX3_drawJug 2 none, Cond.methodLink RX3 86 Lib.Math.min.name, Cond.methodLink RX5 158 yX3_wellSet, Cond.instanceMethod yX3_wellSet, Cond.selects RX3 yX3_wellSet yX3_wellSet, Cond.code yX3_wellSet cX3_wellSet 3 (some .int), Cond.methodLink RX5 162 yJ6_bitCount_0f7a4, Cond.static yJ6_bitCount_0f7a4, Cond.initialized RJ6, Cond.code yJ6_bitCount_0f7a4 cJ6_bitCount_0f7a4 1 (some .int), Cond.constant RJ6 265 (1431655765), Cond.constant RJ6 266 (858993459), Cond.constant RJ6 267 (252645135), Cond.methodLink RL 67 yX6_days, Cond.instanceMethod yX6_days, Cond.selects RX6 yX6_days yX6_days]
def wsL_law_r19 : List Cond := [Cond.code yX6_days cX6_days 2 (some .int), Cond.constantLong RX6 133 (400), Cond.constant RX6 135 (99999), Cond.methodLink RX6 136 yX6_goesOn, Cond.instanceMethod yX6_goesOn, Cond.selects RX6 yX6_goesOn yX6_goesOn, Cond.code yX6_goesOn cX6_goesOn 3 none, Cond.methodLink RX6 130 yX6_day, Cond.instanceMethod yX6_day, Cond.selects RX6 yX6_day yX6_day, Cond.code yX6_day cX6_day 3 none, Cond.methodLink RX6 139 yX6_wellOnes, Cond.instanceMethod yX6_wellOnes, Cond.selects RX6 yX6_wellOnes yX6_wellOnes, Cond.code yX6_wellOnes cX6_wellOnes 3 (some .int), Cond.methodLink RX6 143 yX6_ones, Cond.static yX6_ones, Cond.code yX6_ones cX6_ones 3 (some .int), Cond.methodLink RL 68 yX5_now, Cond.instanceMethod yX5_now, Cond.selects RX5 yX5_now yX5_now, Cond.code yX5_now cX5_now 2 (some .int), Cond.methodLink RX5 173 yX3_illOfAll, Cond.instanceMethod yX3_illOfAll]
def wsL_law_r20 : List Cond := [Cond.selects RX3 yX3_illOfAll yX3_illOfAll, Cond.code yX3_illOfAll cX3_illOfAll 3 (some .int), Cond.methodLink RL 71 yX6_now, Cond.instanceMethod yX6_now, Cond.selects RX6 yX6_now yX6_now, Cond.code yX6_now cX6_now 2 (some .int), Cond.methodLink RX6 146 yX6_together, Cond.instanceMethod yX6_together, Cond.selects RX6 yX6_together yX6_together, Cond.code yX6_together cX6_together 4 (some .int), Cond.methodLink RL 72 yX5_on, Cond.instanceMethod yX5_on, Cond.selects RX5 yX5_on yX5_on, Cond.code yX5_on cX5_on 5 (some .int), Cond.methodLink RX5 176 yX5_lookAhead, Cond.instanceMethod yX5_lookAhead, Cond.selects RX5 yX5_lookAhead yX5_lookAhead, Cond.code yX5_lookAhead cX5_lookAhead 3 none, Cond.methodLink RX5 199 yX3_holySet, Cond.methodLink RX5 179 yX5_tryDays, Cond.instanceMethod yX5_tryDays, Cond.selects RX5 yX5_tryDays yX5_tryDays, Cond.code yX5_tryDays cX5_tryDays 6 none, Cond.methodLink RX5 205 yX1_become]
def wsL_law_r21 : List Cond := [Cond.instanceMethod yX1_become, Cond.selects RX1 yX1_become yX1_become, Cond.code yX1_become cX1_become 2 none, Cond.methodLink RX5 277 yX1_passDay, Cond.methodLink RL 75 yX6_on, Cond.instanceMethod yX6_on, Cond.selects RX6 yX6_on yX6_on, Cond.code yX6_on cX6_on 4 (some .int), Cond.methodLink RX6 149 yX6_laysAside, Cond.instanceMethod yX6_laysAside, Cond.selects RX6 yX6_laysAside yX6_laysAside, Cond.code yX6_laysAside cX6_laysAside 2 none, Cond.methodLink RX6 152 yX6_takesBack, Cond.instanceMethod yX6_takesBack, Cond.selects RX6 yX6_takesBack yX6_takesBack, Cond.code yX6_takesBack cX6_takesBack 3 (some .int), Cond.methodLink RL 76 yX5_well, Cond.instanceMethod yX5_well, Cond.selects RX5 yX5_well yX5_well, Cond.code yX5_well cX5_well 4 (some .int), Cond.constant RX5 187 (-1000000004), Cond.methodLink RX5 183 yX5_daysToWell, Cond.instanceMethod yX5_daysToWell, Cond.selects RX5 yX5_daysToWell yX5_daysToWell]
def wsL_law_r22 : List Cond := [Cond.code yX5_daysToWell cX5_daysToWell 4 (some .int), Cond.methodLink RL 79 yX6_well, Cond.instanceMethod yX6_well, Cond.selects RX6 yX6_well yX6_well, Cond.code yX6_well cX6_well 3 (some .int), Cond.constant RX6 158 (-1000000004), Cond.methodLink RX6 155 yX6_wellIn, Cond.instanceMethod yX6_wellIn, Cond.selects RX6 yX6_wellIn yX6_wellIn, Cond.code yX6_wellIn cX6_wellIn 3 (some .int), Cond.methodLink RL 80 yX5_next, Cond.instanceMethod yX5_next, Cond.selects RX5 yX5_next yX5_next, Cond.code yX5_next cX5_next 4 (some .int), Cond.methodLink RL 83 yX6_next, Cond.instanceMethod yX6_next, Cond.selects RX6 yX6_next yX6_next, Cond.code yX6_next cX6_next 3 (some .int), Cond.methodLink RL 84 yX5_agree, Cond.instanceMethod yX5_agree, Cond.selects RX5 yX5_agree yX5_agree, Cond.code yX5_agree cX5_agree 6 (some .int), Cond.methodLink RX5 188 yX3_hasBoth, Cond.instanceMethod yX3_hasBoth]
def wsL_law_r23 : List Cond := [Cond.selects RX3 yX3_hasBoth yX3_hasBoth, Cond.code yX3_hasBoth cX3_hasBoth 3 (some .boolean), Cond.methodLink RX5 191 yX5_agreeAhead, Cond.instanceMethod yX5_agreeAhead, Cond.selects RX5 yX5_agreeAhead yX5_agreeAhead, Cond.code yX5_agreeAhead cX5_agreeAhead 4 (some .boolean), Cond.methodLink RX5 291 yX5_isIn, Cond.methodLink RL 87 yX6_agree, Cond.instanceMethod yX6_agree, Cond.selects RX6 yX6_agree yX6_agree, Cond.code yX6_agree cX6_agree 4 (some .int), Cond.methodLink RX6 163 yX6_areTwo, Cond.instanceMethod yX6_areTwo, Cond.selects RX6 yX6_areTwo yX6_areTwo, Cond.code yX6_areTwo cX6_areTwo 3 (some .boolean), Cond.methodLink RX6 166 yX6_agreed, Cond.instanceMethod yX6_agreed, Cond.selects RX6 yX6_agreed yX6_agreed, Cond.code yX6_agreed cX6_agreed 6 (some .int), Cond.methodLink RX6 159 yX6_isAgreed, Cond.instanceMethod yX6_isAgreed, Cond.selects RX6 yX6_isAgreed yX6_isAgreed, Cond.code yX6_isAgreed cX6_isAgreed 4 (some .boolean), Cond.methodLink RL 88 yX5_row]
def wsL_law_r24 : List Cond := [Cond.instanceMethod yX5_row, Cond.selects RX5 yX5_row yX5_row, Cond.code yX5_row cX5_row 7 (some .int), Cond.methodLink RX5 194 Lib.Math.max.name, Cond.methodLink RL 91 yX6_row, Cond.instanceMethod yX6_row, Cond.selects RX6 yX6_row yX6_row, Cond.code yX6_row cX6_row 7 (some .int), Cond.methodLink RL 92 yX5_meet, Cond.instanceMethod yX5_meet, Cond.selects RX5 yX5_meet yX5_meet, Cond.code yX5_meet cX5_meet 3 (some .int), Cond.methodLink RL 95 yX6_meet, Cond.instanceMethod yX6_meet, Cond.selects RX6 yX6_meet yX6_meet, Cond.code yX6_meet cX6_meet 3 (some .int), Cond.methodLink RX6 170 yX6_holyBy, Cond.instanceMethod yX6_holyBy, Cond.selects RX6 yX6_holyBy yX6_holyBy, Cond.code yX6_holyBy cX6_holyBy 4 (some .int), Cond.methodLink RL 96 yX5_both, Cond.instanceMethod yX5_both, Cond.selects RX5 yX5_both yX5_both, Cond.code yX5_both cX5_both 9 (some .int)]
def wsL_law_r25 : List Cond := [Cond.methodLink RL 100 yX6_both, Cond.instanceMethod yX6_both, Cond.selects RX6 yX6_both yX6_both, Cond.code yX6_both cX6_both 6 (some .int), Cond.methodLink RX6 173 yX6_isDate, Cond.static yX6_isDate, Cond.code yX6_isDate cX6_isDate 1 (some .boolean), Cond.methodLink RL 101 yX5_trust, Cond.instanceMethod yX5_trust, Cond.selects RX5 yX5_trust yX5_trust, Cond.code yX5_trust cX5_trust 7 (some .int), Cond.methodLink RL 104 yX6_trust, Cond.instanceMethod yX6_trust, Cond.selects RX6 yX6_trust yX6_trust, Cond.code yX6_trust cX6_trust 8 (some .int), Cond.methodLink RL 105 yX5_truth, Cond.instanceMethod yX5_truth, Cond.selects RX5 yX5_truth yX5_truth, Cond.code yX5_truth cX5_truth 6 (some .int), Cond.methodLink RX5 202 yX5_illOfAllAhead, Cond.instanceMethod yX5_illOfAllAhead, Cond.selects RX5 yX5_illOfAllAhead yX5_illOfAllAhead, Cond.code yX5_illOfAllAhead cX5_illOfAllAhead 6 (some .int), Cond.methodLink RL 108 yX6_truth]
def wsL_law_r26 : List Cond := [Cond.instanceMethod yX6_truth, Cond.selects RX6 yX6_truth yX6_truth, Cond.code yX6_truth cX6_truth 7 (some .int), Cond.constantLong RX6 176 (100), Cond.methodLink RL 109 yX5_cure, Cond.instanceMethod yX5_cure, Cond.selects RX5 yX5_cure yX5_cure, Cond.code yX5_cure cX5_cure 5 (some .int), Cond.methodLink RL 112 yX6_cure, Cond.instanceMethod yX6_cure, Cond.selects RX6 yX6_cure yX6_cure, Cond.code yX6_cure cX6_cure 4 (some .int), Cond.methodLink RL 113 yX5_kind, Cond.instanceMethod yX5_kind, Cond.selects RX5 yX5_kind yX5_kind, Cond.code yX5_kind cX5_kind 3 (some .int), Cond.methodLink RX5 209 yX5_bestValue, Cond.instanceMethod yX5_bestValue, Cond.selects RX5 yX5_bestValue yX5_bestValue, Cond.code yX5_bestValue cX5_bestValue 11 (some .int), Cond.methodLink RX5 294 yX0_least, Cond.static yX0_least, Cond.code yX0_least cX0_least 1 (some .int), Cond.methodLink RX5 297 yX0_become]
def wsL_law_r27 : List Cond := [Cond.instanceMethod yX0_become, Cond.selects RX0 yX0_become yX0_become, Cond.code yX0_become cX0_become 2 none, Cond.methodLink RX5 300 yX0_greatest, Cond.static yX0_greatest, Cond.code yX0_greatest cX0_greatest 1 (some .int), Cond.methodLink RX5 303 yX5_agreementsOfTried, Cond.instanceMethod yX5_agreementsOfTried, Cond.selects RX5 yX5_agreementsOfTried yX5_agreementsOfTried, Cond.code yX5_agreementsOfTried cX5_agreementsOfTried 4 (some .int), Cond.methodLink RL 116 yX6_kind, Cond.instanceMethod yX6_kind, Cond.selects RX6 yX6_kind yX6_kind, Cond.code yX6_kind cX6_kind 3 (some .int), Cond.methodLink RX6 178 yX6_mostAgreed, Cond.instanceMethod yX6_mostAgreed, Cond.selects RX6 yX6_mostAgreed yX6_mostAgreed, Cond.code yX6_mostAgreed cX6_mostAgreed 11 (some .int), Cond.methodLink RL 117 yX5_begin, Cond.instanceMethod yX5_begin, Cond.selects RX5 yX5_begin yX5_begin, Cond.code yX5_begin cX5_begin 3 (some .int), Cond.methodLink RL 120 yX6_begin, Cond.instanceMethod yX6_begin]
def wsL_law_r28 : List Cond := [Cond.selects RX6 yX6_begin yX6_begin, Cond.code yX6_begin cX6_begin 3 (some .int), Cond.methodLink RL 121 yX5_power, Cond.instanceMethod yX5_power, Cond.selects RX5 yX5_power yX5_power, Cond.code yX5_power cX5_power 6 (some .int), Cond.methodLink RX5 213 yX5_wellAhead, Cond.instanceMethod yX5_wellAhead, Cond.selects RX5 yX5_wellAhead yX5_wellAhead, Cond.code yX5_wellAhead cX5_wellAhead 6 (some .int), Cond.methodLink RL 124 yX6_power, Cond.instanceMethod yX6_power, Cond.selects RX6 yX6_power yX6_power, Cond.code yX6_power cX6_power 7 (some .int), Cond.methodLink RL 125 yX5_feed, Cond.instanceMethod yX5_feed, Cond.selects RX5 yX5_feed yX5_feed, Cond.code yX5_feed cX5_feed 4 (some .int), Cond.methodLink RX5 219 yX4_add, Cond.instanceMethod yX4_add, Cond.selects RX4 yX4_add yX4_add, Cond.code yX4_add cX4_add 2 none, Cond.fieldLink RX4 22 "EvenSpring$SpringText" "length" "I", Cond.methodLink RL 128 yX6_feed]
def wsL_law_r29 : List Cond := [Cond.instanceMethod yX6_feed, Cond.selects RX6 yX6_feed yX6_feed, Cond.code yX6_feed cX6_feed 4 (some .int), Cond.fieldLink RX6 182 "EvenSpringModel" "taped" "I", Cond.methodLink RL 129 yX5_wipe, Cond.instanceMethod yX5_wipe, Cond.selects RX5 yX5_wipe yX5_wipe, Cond.code yX5_wipe cX5_wipe 2 (some .int), Cond.methodLink RL 133 yX6_wipe, Cond.instanceMethod yX6_wipe, Cond.selects RX6 yX6_wipe yX6_wipe, Cond.code yX6_wipe cX6_wipe 2 (some .int), Cond.methodLink RL 134 yX5_spring, Cond.instanceMethod yX5_spring, Cond.selects RX5 yX5_spring yX5_spring, Cond.code yX5_spring cX5_spring 2 (some .int), Cond.methodLink RX5 223 yX4_tell, Cond.instanceMethod yX4_tell, Cond.selects RX4 yX4_tell yX4_tell, Cond.code yX4_tell cX4_tell 3 (some .int), Cond.fieldLink RX4 30 "EvenSpring$SpringText" "end" "I", Cond.fieldLink RX4 40 "EvenSpring$SpringText" "start" "I", Cond.fieldLink RX4 43 "EvenSpring$SpringText" "token" "I", Cond.methodLink RX4 26 yX3_become]
def wsL_law_r30 : List Cond := [Cond.instanceMethod yX3_become, Cond.selects RX3 yX3_become yX3_become, Cond.code yX3_become cX3_become 3 none, Cond.methodLink RX3 47 yX0_become, Cond.methodLink RX3 51 yX1_become, Cond.methodLink RX4 33 yX4_readToken, Cond.instanceMethod yX4_readToken, Cond.selects RX4 yX4_readToken yX4_readToken, Cond.code yX4_readToken cX4_readToken 1 none, Cond.fieldLink RX4 72 "EvenSpring$SpringText" "number" "I", Cond.methodLink RX4 162 Lib.Math.min.name, Cond.methodLink RX4 147 yX4_byteAt, Cond.instanceMethod yX4_byteAt, Cond.selects RX4 yX4_byteAt yX4_byteAt, Cond.code yX4_byteAt cX4_byteAt 2 (some .int), Cond.methodLink RX4 155 yX4_isLetter, Cond.static yX4_isLetter, Cond.code yX4_isLetter cX4_isLetter 1 (some .boolean), Cond.methodLink RX4 159 yX4_isDigit, Cond.static yX4_isDigit, Cond.code yX4_isDigit cX4_isDigit 1 (some .boolean), Cond.methodLink RX4 36 yX4_tellItem, Cond.instanceMethod yX4_tellItem, Cond.selects RX4 yX4_tellItem yX4_tellItem]
def wsL_law_r31 : List Cond := [Cond.code yX4_tellItem cX4_tellItem 1 (some .boolean), Cond.methodLink RX4 48 yX4_isWord, Cond.instanceMethod yX4_isWord, Cond.selects RX4 yX4_isWord yX4_isWord, Cond.code yX4_isWord cX4_isWord 3 (some .boolean), Cond.methodLink RX4 143 yJ0_length_8abf5, Cond.instanceMethod yJ0_length_8abf5, Cond.selects RJ0 yJ0_length_8abf5 yJ0_length_8abf5, Cond.initialized RJ0, Cond.code yJ0_length_8abf5 cJ0_length_8abf5 1 (some .int), Cond.fieldLink RJ0 9 "java/lang/String" "value" "[B", Cond.methodLink RJ0 335 yJ0_coder_7d493, Cond.instanceMethod yJ0_coder_7d493, Cond.selects RJ0 yJ0_coder_7d493 yJ0_coder_7d493, Cond.code yJ0_coder_7d493 cJ0_coder_7d493 1 (some .byte), Cond.fieldLink RJ0 38 "java/lang/String" "COMPACT_STRINGS" "Z", Cond.fieldLink RJ0 15 "java/lang/String" "coder" "B", Cond.methodLink RX4 151 yJ0_charAt_5068e, Cond.instanceMethod yJ0_charAt_5068e, Cond.selects RJ0 yJ0_charAt_5068e yJ0_charAt_5068e, Cond.code yJ0_charAt_5068e cJ0_charAt_5068e 2 (some .char), Cond.methodLink RJ0 492 yJ0_isLatin1_aae02, Cond.instanceMethod yJ0_isLatin1_aae02, Cond.selects RJ0 yJ0_isLatin1_aae02 yJ0_isLatin1_aae02]
def wsL_law_r32 : List Cond := [Cond.code yJ0_isLatin1_aae02 cJ0_isLatin1_aae02 1 (some .boolean), Cond.methodLink RJ0 495 yJ1_charAt_3b067, Cond.static yJ1_charAt_3b067, Cond.initialized RJ1, Cond.code yJ1_charAt_3b067 cJ1_charAt_3b067 2 (some .char), Cond.methodLink RJ1 9 yJ0_checkIndex_df160, Cond.static yJ0_checkIndex_df160, Cond.code yJ0_checkIndex_df160 cJ0_checkIndex_df160 2 none, Cond.fieldLink RJ0 1053 "jdk/internal/util/Preconditions" "SIOOBE_FORMATTER" "Ljava/util/function/BiFunction;", Cond.methodLink RJ0 1059 yJ3_checkIndex_8e157, Cond.static yJ3_checkIndex_8e157, Cond.initialized RJ3, Cond.code yJ3_checkIndex_8e157 cJ3_checkIndex_8e157 3 (some .int), Cond.methodLink RJ0 498 yJ2_charAt_3b067, Cond.static yJ2_charAt_3b067, Cond.initialized RJ2, Cond.code yJ2_charAt_3b067 cJ2_charAt_3b067 2 (some .char), Cond.methodLink RJ2 67 yJ2_checkIndex_2214a, Cond.static yJ2_checkIndex_2214a, Cond.code yJ2_checkIndex_2214a cJ2_checkIndex_2214a 2 none, Cond.methodLink RJ2 48 yJ2_length_9d52b, Cond.static yJ2_length_9d52b, Cond.code yJ2_length_9d52b cJ2_length_9d52b 1 (some .int), Cond.methodLink RJ2 414 yJ0_checkIndex_df160]
def wsL_law_r33 : List Cond := [Cond.methodLink RJ2 71 yJ2_getChar_3b067, Cond.static yJ2_getChar_3b067, Cond.code yJ2_getChar_3b067 cJ2_getChar_3b067 2 (some .char), Cond.fieldLink RJ2 44 "java/lang/StringUTF16" "$assertionsDisabled" "Z", Cond.fieldLink RJ2 59 "java/lang/StringUTF16" "HI_BYTE_SHIFT" "I", Cond.fieldLink RJ2 63 "java/lang/StringUTF16" "LO_BYTE_SHIFT" "I", Cond.methodLink RX4 52 yX4_tellPilgrim, Cond.instanceMethod yX4_tellPilgrim, Cond.selects RX4 yX4_tellPilgrim yX4_tellPilgrim, Cond.code yX4_tellPilgrim cX4_tellPilgrim 3 (some .boolean), Cond.methodLink RX4 68 yX4_isNumber, Cond.instanceMethod yX4_isNumber, Cond.selects RX4 yX4_isNumber yX4_isNumber, Cond.code yX4_isNumber cX4_isNumber 3 (some .boolean), Cond.methodLink RX4 119 yX3_addPilgrim, Cond.methodLink RX4 57 yX4_tellTruth, Cond.instanceMethod yX4_tellTruth, Cond.selects RX4 yX4_tellTruth yX4_tellTruth, Cond.code yX4_tellTruth cX4_tellTruth 1 (some .boolean), Cond.methodLink RX4 62 yX4_tellPower, Cond.instanceMethod yX4_tellPower, Cond.selects RX4 yX4_tellPower yX4_tellPower, Cond.code yX4_tellPower cX4_tellPower 1 (some .boolean), Cond.methodLink RX4 65 yX4_tellCalendar]
def wsL_law_r34 : List Cond := [Cond.instanceMethod yX4_tellCalendar, Cond.selects RX4 yX4_tellCalendar yX4_tellCalendar, Cond.code yX4_tellCalendar cX4_tellCalendar 2 (some .boolean), Cond.methodLink RX4 79 yX4_kindNamed, Cond.instanceMethod yX4_kindNamed, Cond.selects RX4 yX4_kindNamed yX4_kindNamed, Cond.code yX4_kindNamed cX4_kindNamed 2 (some .int), Cond.methodLink RX4 127 yX4_nameOf, Cond.static yX4_nameOf, Cond.code yX4_nameOf cX4_nameOf 1 (some (.object "java/lang/String")), Cond.methodLink RX4 86 yX3_addCalendar, Cond.methodLink RX4 94 yX4_tellField, Cond.instanceMethod yX4_tellField, Cond.selects RX4 yX4_tellField yX4_tellField, Cond.code yX4_tellField cX4_tellField 4 (some .boolean), Cond.methodLink RX4 103 yX3_calendarAt, Cond.methodLink RX4 107 yX0_allows, Cond.methodLink RX4 110 yX0_change, Cond.methodLink RX5 230 yX3_become, Cond.methodLink RL 137 yX6_spring, Cond.instanceMethod yX6_spring, Cond.selects RX6 yX6_spring yX6_spring, Cond.code yX6_spring cX6_spring 2 (some .int), Cond.fieldLink RX6 209 "EvenSpringModel" "isWrong" "Z"]
def wsL_law_r35 : List Cond := [Cond.fieldLink RX6 194 "EvenSpringModel" "to" "I", Cond.fieldLink RX6 197 "EvenSpringModel" "from" "I", Cond.methodLink RX6 276 yX6_saves, Cond.instanceMethod yX6_saves, Cond.selects RX6 yX6_saves yX6_saves, Cond.code yX6_saves cX6_saves 2 none, Cond.methodLink RX6 213 yX6_token, Cond.instanceMethod yX6_token, Cond.selects RX6 yX6_token yX6_token, Cond.code yX6_token cX6_token 3 none, Cond.methodLink RX6 200 yX6_byteAt, Cond.instanceMethod yX6_byteAt, Cond.selects RX6 yX6_byteAt yX6_byteAt, Cond.code yX6_byteAt cX6_byteAt 2 (some .int), Cond.methodLink RX6 203 yX6_isLetter, Cond.static yX6_isLetter, Cond.code yX6_isLetter cX6_isLetter 1 (some .boolean), Cond.constantLong RX6 186 (97), Cond.constantLong RX6 188 (122), Cond.methodLink RX6 206 yX6_isDigit, Cond.static yX6_isDigit, Cond.code yX6_isDigit cX6_isDigit 1 (some .boolean), Cond.constantLong RX6 190 (48), Cond.constantLong RX6 192 (57)]
def wsL_law_r36 : List Cond := [Cond.methodLink RX6 279 yX6_item, Cond.instanceMethod yX6_item, Cond.selects RX6 yX6_item yX6_item, Cond.code yX6_item cX6_item 6 none, Cond.constantLong RX6 267 (17494690093), Cond.constantLong RX6 272 (21583496), Cond.constantLong RX6 274 (17292466), Cond.fieldLink RX6 220 "EvenSpringModel" "value" "I", Cond.methodLink RX6 261 yX6_kindHere, Cond.instanceMethod yX6_kindHere, Cond.selects RX6 yX6_kindHere yX6_kindHere, Cond.code yX6_kindHere cX6_kindHere 3 (some .int), Cond.constantLong RX6 231 (3659220), Cond.constantLong RX6 233 (15748), Cond.constantLong RX6 235 (14519), Cond.constantLong RX6 237 (3559), Cond.constantLong RX6 239 (398384), Cond.constantLong RX6 241 (441803), Cond.methodLink RX6 227 yX6_word, Cond.instanceMethod yX6_word, Cond.selects RX6 yX6_word yX6_word, Cond.code yX6_word cX6_word 4 (some .long), Cond.constantLong RX6 216 (36028797018963967), Cond.constantLong RX6 218 (32)]
def wsL_law_r37 : List Cond := [Cond.methodLink RX6 264 yX6_calendarItem, Cond.instanceMethod yX6_calendarItem, Cond.selects RX6 yX6_calendarItem yX6_calendarItem, Cond.code yX6_calendarItem cX6_calendarItem 3 none, Cond.constantLong RX6 247 (2268462), Cond.constantLong RX6 253 (408362632), Cond.constantLong RX6 255 (398548), Cond.constantLong RX6 257 (609435213), Cond.methodLink RX6 223 yX6_must, Cond.instanceMethod yX6_must, Cond.selects RX6 yX6_must yX6_must, Cond.code yX6_must cX6_must 2 none, Cond.methodLink RX6 249 yX6_partItem, Cond.instanceMethod yX6_partItem, Cond.selects RX6 yX6_partItem yX6_partItem, Cond.code yX6_partItem cX6_partItem 7 none, Cond.methodLink RX6 243 yX6_number, Cond.instanceMethod yX6_number, Cond.selects RX6 yX6_number yX6_number, Cond.code yX6_number cX6_number 6 none, Cond.methodLink RX6 269 yX6_pilgrimItem, Cond.instanceMethod yX6_pilgrimItem, Cond.selects RX6 yX6_pilgrimItem yX6_pilgrimItem, Cond.code yX6_pilgrimItem cX6_pilgrimItem 4 none]
def wsL_law_r38 : List Cond := [Cond.constantLong RX6 259 (690671251), Cond.methodLink RX6 282 yX6_putsBack, Cond.instanceMethod yX6_putsBack, Cond.selects RX6 yX6_putsBack yX6_putsBack, Cond.code yX6_putsBack cX6_putsBack 2 none, Cond.methodLink RL 138 yX5_sheet, Cond.instanceMethod yX5_sheet, Cond.selects RX5 yX5_sheet yX5_sheet, Cond.code yX5_sheet cX5_sheet 5 (some .int), Cond.constant RX5 239 (-1000000007), Cond.methodLink RX5 233 yX5_sheetAt, Cond.instanceMethod yX5_sheetAt, Cond.selects RX5 yX5_sheetAt yX5_sheetAt, Cond.code yX5_sheetAt cX5_sheetAt 2 (some (.object "EvenSpring$Sheet")), Cond.methodLink RX5 237 yX2_allows, Cond.static yX2_allows, Cond.code yX2_allows cX2_allows 1 (some .boolean), Cond.methodLink RX5 240 yX2_lay, Cond.instanceMethod yX2_lay, Cond.selects RX2 yX2_lay yX2_lay, Cond.code yX2_lay cX2_lay 4 none, Cond.fieldLink RX2 15 "EvenSpring$Sheet" "bits" "I", Cond.methodLink RX2 19 Lib.Math.min.name, Cond.methodLink RX2 25 Lib.Math.max.name]
def wsL_law_r39 : List Cond := [Cond.fieldLink RX2 28 "EvenSpring$Sheet" "size" "I", Cond.methodLink RL 141 yX6_sheet, Cond.instanceMethod yX6_sheet, Cond.selects RX6 yX6_sheet yX6_sheet, Cond.code yX6_sheet cX6_sheet 5 (some .int), Cond.constant RX6 288 (-1000000007), Cond.methodLink RX6 285 yX6_isOne, Cond.static yX6_isOne, Cond.code yX6_isOne cX6_isOne 1 (some .boolean), Cond.methodLink RL 144 yX5_write, Cond.instanceMethod yX5_write, Cond.selects RX5 yX5_write yX5_write, Cond.code yX5_write cX5_write 8 (some .long), Cond.constant RX5 250 (-1000000006), Cond.methodLink RX5 246 yX2_isMissing, Cond.instanceMethod yX2_isMissing, Cond.selects RX2 yX2_isMissing yX2_isMissing, Cond.code yX2_isMissing cX2_isMissing 1 (some .boolean), Cond.methodLink RX5 251 yX2_numberAt, Cond.instanceMethod yX2_numberAt, Cond.selects RX2 yX2_numberAt yX2_numberAt, Cond.code yX2_numberAt cX2_numberAt 2 (some .long), Cond.methodLink RX5 255 yX2_put, Cond.instanceMethod yX2_put]
def wsL_law_r40 : List Cond := [Cond.selects RX2 yX2_put yX2_put, Cond.code yX2_put cX2_put 4 none, Cond.methodLink RX2 31 yX2_lowest, Cond.instanceMethod yX2_lowest, Cond.selects RX2 yX2_lowest yX2_lowest, Cond.code yX2_lowest cX2_lowest 3 (some .long), Cond.methodLink RL 148 yX6_write, Cond.instanceMethod yX6_write, Cond.selects RX6 yX6_write yX6_write, Cond.code yX6_write cX6_write 8 (some .long), Cond.methodLink RX6 290 yX6_wrongSheet, Cond.instanceMethod yX6_wrongSheet, Cond.selects RX6 yX6_wrongSheet yX6_wrongSheet, Cond.code yX6_wrongSheet cX6_wrongSheet 2 (some .int), Cond.constant RX6 289 (-1000000006), Cond.methodLink RX6 293 yX6_narrowed, Cond.static yX6_narrowed, Cond.code yX6_narrowed cX6_narrowed 3 (some .long), Cond.methodLink RL 149 yX5_copy, Cond.instanceMethod yX5_copy, Cond.selects RX5 yX5_copy yX5_copy, Cond.code yX5_copy cX5_copy 8 (some .int), Cond.methodLink RX5 269 arraycopyName, Cond.methodLink RX5 262 yX2_hasRange]
def wsL_law_r41 : List Cond := [Cond.instanceMethod yX2_hasRange, Cond.selects RX2 yX2_hasRange yX2_hasRange, Cond.code yX2_hasRange cX2_hasRange 3 (some .boolean), Cond.methodLink RL 153 yX6_copy, Cond.instanceMethod yX6_copy, Cond.selects RX6 yX6_copy yX6_copy, Cond.code yX6_copy cX6_copy 7 (some .int), Cond.methodLink RL 154 yX5_lays, Cond.instanceMethod yX5_lays, Cond.selects RX5 yX5_lays yX5_lays, Cond.code yX5_lays cX5_lays 8 (some .int), Cond.constantLong RX5 275 (99), Cond.methodLink RL 157 yX6_lays, Cond.instanceMethod yX6_lays, Cond.selects RX6 yX6_lays yX6_lays, Cond.code yX6_lays cX6_lays 6 (some .int), Cond.methodLink RL 158 yX5_book, Cond.instanceMethod yX5_book, Cond.selects RX5 yX5_book yX5_book, Cond.code yX5_book cX5_book 6 (some .int), Cond.methodLink RL 161 yX6_book, Cond.instanceMethod yX6_book, Cond.selects RX6 yX6_book yX6_book, Cond.code yX6_book cX6_book 5 (some .int)]
def wsL_law_r42 : List Cond := [Cond.methodLink RX6 297 yX6_wrongBook, Cond.instanceMethod yX6_wrongBook, Cond.selects RX6 yX6_wrongBook yX6_wrongBook, Cond.code yX6_wrongBook cX6_wrongBook 4 (some .int), Cond.methodLink RL 162 yX5_read, Cond.instanceMethod yX5_read, Cond.selects RX5 yX5_read yX5_read, Cond.code yX5_read cX5_read 8 (some .int), Cond.methodLink RX5 280 yX5_makesJustSo, Cond.instanceMethod yX5_makesJustSo, Cond.selects RX5 yX5_makesJustSo yX5_makesJustSo, Cond.code yX5_makesJustSo cX5_makesJustSo 6 (some .boolean), Cond.methodLink RL 165 yX6_read, Cond.instanceMethod yX6_read, Cond.selects RX6 yX6_read yX6_read, Cond.code yX6_read cX6_read 7 (some .int), Cond.methodLink RX6 300 yX6_isBook, Cond.instanceMethod yX6_isBook, Cond.selects RX6 yX6_isBook yX6_isBook, Cond.code yX6_isBook cX6_isBook 4 (some .boolean), Cond.methodLink RL 166 yX5_image, Cond.instanceMethod yX5_image, Cond.selects RX5 yX5_image yX5_image, Cond.code yX5_image cX5_image 1 (some .int)]
def wsL_law_r43 : List Cond := [Cond.fieldLink RX5 284 "EvenSpring" "isKept" "Z", Cond.methodLink RL 169 yX6_image, Cond.instanceMethod yX6_image, Cond.selects RX6 yX6_image yX6_image, Cond.code yX6_image cX6_image 2 (some .int), Cond.fieldLink RX6 303 "EvenSpringModel" "isKept" "Z", Cond.methodLink RL 170 yX5_undo, Cond.instanceMethod yX5_undo, Cond.selects RX5 yX5_undo yX5_undo, Cond.code yX5_undo cX5_undo 1 (some .int), Cond.methodLink RL 173 yX6_undo, Cond.instanceMethod yX6_undo, Cond.selects RX6 yX6_undo yX6_undo, Cond.code yX6_undo cX6_undo 2 (some .int), Cond.methodLink RL 174 yX5_tear, Cond.instanceMethod yX5_tear, Cond.selects RX5 yX5_tear yX5_tear, Cond.code yX5_tear cX5_tear 2 (some .int), Cond.methodLink RL 177 yX6_tear, Cond.instanceMethod yX6_tear, Cond.selects RX6 yX6_tear yX6_tear, Cond.code yX6_tear cX6_tear 2 (some .int), Cond.methodLink RL 178 yX5_count, Cond.instanceMethod yX5_count]
def wsL_law_r44 : List Cond := [Cond.selects RX5 yX5_count yX5_count, Cond.code yX5_count cX5_count 2 (some .int), Cond.methodLink RX5 288 yX3_bathedOfAll, Cond.instanceMethod yX3_bathedOfAll, Cond.selects RX3 yX3_bathedOfAll yX3_bathedOfAll, Cond.code yX3_bathedOfAll cX3_bathedOfAll 3 (some .int), Cond.methodLink RL 181 yX6_count, Cond.instanceMethod yX6_count, Cond.selects RX6 yX6_count yX6_count, Cond.code yX6_count cX6_count 2 (some .int), Cond.methodLink RL 182 yX5_status, Cond.instanceMethod yX5_status, Cond.selects RX5 yX5_status yX5_status, Cond.code yX5_status cX5_status 4 (some .int), Cond.methodLink RL 185 yX6_status, Cond.instanceMethod yX6_status, Cond.selects RX6 yX6_status yX6_status, Cond.code yX6_status cX6_status 4 (some .int), Cond.constantLong RX6 306 (-1), Cond.constantLong RX6 308 (6)]
def wsL_law : List Cond := (wsL_law_r1 ++ (wsL_law_r2 ++ (wsL_law_r3 ++ (wsL_law_r4 ++ (wsL_law_r5 ++ (wsL_law_r6 ++ (wsL_law_r7 ++ (wsL_law_r8 ++ (wsL_law_r9 ++ (wsL_law_r10 ++ (wsL_law_r11 ++ (wsL_law_r12 ++ (wsL_law_r13 ++ (wsL_law_r14 ++ (wsL_law_r15 ++ (wsL_law_r16 ++ (wsL_law_r17 ++ (wsL_law_r18 ++ (wsL_law_r19 ++ (wsL_law_r20 ++ (wsL_law_r21 ++ (wsL_law_r22 ++ (wsL_law_r23 ++ (wsL_law_r24 ++ (wsL_law_r25 ++ (wsL_law_r26 ++ (wsL_law_r27 ++ (wsL_law_r28 ++ (wsL_law_r29 ++ (wsL_law_r30 ++ (wsL_law_r31 ++ (wsL_law_r32 ++ (wsL_law_r33 ++ (wsL_law_r34 ++ (wsL_law_r35 ++ (wsL_law_r36 ++ (wsL_law_r37 ++ (wsL_law_r38 ++ (wsL_law_r39 ++ (wsL_law_r40 ++ (wsL_law_r41 ++ (wsL_law_r42 ++ (wsL_law_r43 ++ wsL_law_r44))))))))))))))))))))))))))))))))))))))))))) ++ wsX50 ++ wsX60 ++ wsX30 ++ wsX40 ++ wsX10 ++ wsX00 ++ wsX20 ++ ([] : List Cond)
set_option maxRecDepth 20000 in
theorem wsL_law_in : ∀ w ∈ wsL_law, w ∈ lw_tbl := fun w h => (goodIn_p wsL_law [87, 90, 95, 104, 114, 174, 212, 819, 259, 262, 265, 274, 279, 283, 873, 876, 880, 885, 890, 292, 296, 301, 894, 898, 903, 305, 309, 907, 910, 917, 314, 921, 318, 322, 925, 928, 327, 331, 335, 339, 343, 347, 350, 354, 358, 933, 939, 943, 947, 951, 363, 955, 367, 371, 376, 380, 960, 964, 968, 971, 384, 388, 975, 979, 984, 392, 988, 396, 400, 405, 408, 411, 992, 997, 415, 419, 424, 1001, 1005, 429, 433, 437, 441, 444, 450, 455, 458, 1009, 1015, 1019, 1023, 1026, 465, 469, 1030, 1034, 473, 477, 482, 486, 1038, 1042, 1046, 491, 495, 1050, 1054, 500, 1059, 504, 508, 512, 1063, 1067, 1071, 1075, 517, 1079, 522, 1083, 1087, 526, 1091, 1094, 530, 1098, 534, 538, 1102, 542, 1107, 546, 550, 553, 557, 560, 564, 1111, 1115, 568, 1119, 572, 576, 1123, 580, 584, 1127, 588, 1131, 592, 596, 600, 606, 610, 613, 616, 621, 626, 630, 634, 640, 644, 647, 650, 655, 658, 661, 664, 668, 678, 682, 690, 695, 699, 703, 706, 718, 1135, 1139, 1143, 1147, 1150, 1155, 1161, 1165, 1169, 1181, 1185, 1190, 1194, 1202, 1209, 729, 733, 736, 741, 1213, 1216, 747, 751, 756, 760, 764, 1221, 1225, 1229, 768, 772, 1233, 777, 1237, 782, 1241, 1245, 786, 790, 1249, 1253, 794, 1257, 798, 1261, 802, 1265, 806, 810, 1269, 814, 1273] (by decide +kernel) (by decide +kernel) w h).1
theorem inlX0 : ∀ w ∈ wsX00, w ∈ wsL_law := fun _ h => List.mem_append_left _ (List.mem_append_left _ (List.mem_append_right _ h))
theorem inX0 : ∀ w ∈ wsX00, w ∈ lw_tbl := fun w h => wsL_law_in w (inlX0 w h)
theorem inlX1 : ∀ w ∈ wsX10, w ∈ wsL_law := fun _ h => List.mem_append_left _ (List.mem_append_left _ (List.mem_append_left _ (List.mem_append_right _ h)))
theorem inX1 : ∀ w ∈ wsX10, w ∈ lw_tbl := fun w h => wsL_law_in w (inlX1 w h)
theorem inlX2 : ∀ w ∈ wsX20, w ∈ wsL_law := fun _ h => List.mem_append_left _ (List.mem_append_right _ h)
theorem inX2 : ∀ w ∈ wsX20, w ∈ lw_tbl := fun w h => wsL_law_in w (inlX2 w h)
theorem inlX3 : ∀ w ∈ wsX30, w ∈ wsL_law := fun _ h => List.mem_append_left _ (List.mem_append_left _ (List.mem_append_left _ (List.mem_append_left _ (List.mem_append_left _ (List.mem_append_right _ h)))))
theorem inX3 : ∀ w ∈ wsX30, w ∈ lw_tbl := fun w h => wsL_law_in w (inlX3 w h)
theorem inlX4 : ∀ w ∈ wsX40, w ∈ wsL_law := fun _ h => List.mem_append_left _ (List.mem_append_left _ (List.mem_append_left _ (List.mem_append_left _ (List.mem_append_right _ h))))
theorem inX4 : ∀ w ∈ wsX40, w ∈ lw_tbl := fun w h => wsL_law_in w (inlX4 w h)
theorem inlX5 : ∀ w ∈ wsX50, w ∈ wsL_law := fun _ h => List.mem_append_left _ (List.mem_append_left _ (List.mem_append_left _ (List.mem_append_left _ (List.mem_append_left _ (List.mem_append_left _ (List.mem_append_left _ (List.mem_append_right _ h)))))))
theorem inX5 : ∀ w ∈ wsX50, w ∈ lw_tbl := fun w h => wsL_law_in w (inlX5 w h)
theorem inlX6 : ∀ w ∈ wsX60, w ∈ wsL_law := fun _ h => List.mem_append_left _ (List.mem_append_left _ (List.mem_append_left _ (List.mem_append_left _ (List.mem_append_left _ (List.mem_append_left _ (List.mem_append_right _ h))))))
theorem inX6 : ∀ w ∈ wsX60, w ∈ lw_tbl := fun w h => wsL_law_in w (inlX6 w h)
theorem inJ6 : ∀ w ∈ wsJ60, w ∈ lw_tbl := by decide +kernel
theorem inJ9 : ∀ w ∈ wsJ90, w ∈ lw_tbl := by decide +kernel
theorem inJ0 : ∀ w ∈ wsJ00, w ∈ lw_tbl := by decide +kernel
theorem inJ1 : ∀ w ∈ wsJ10, w ∈ lw_tbl := by decide +kernel
theorem inJ2 : ∀ w ∈ wsJ20, w ∈ lw_tbl := by decide +kernel
theorem inJ10 : ∀ w ∈ wsJ100, w ∈ lw_tbl := by decide +kernel
theorem inJ3 : ∀ w ∈ wsJ30, w ∈ lw_tbl := by decide +kernel
abbrev vwCl : List vw_C := [(RX0, TX0, 1), (RX1, TX1, 3), (RX2, TX2, 3), (RX3, TX3, 9), (RX4, TX4, 7), (RX5, TX5, 9), (RX6, TX6, 16)]
/-- the objects of EvenSpring$Calendar, kind 0: what each holds, by its address -/
