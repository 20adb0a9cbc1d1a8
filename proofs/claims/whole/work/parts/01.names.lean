/-! printed: the tables' words, names, fields, words -/
/-- a private method of a class that the tables say can be made, by its rows of tables_1 -/
def lw_okq (q : MethodName × Nat) : Prop := (q.1.cls ≠ "java/lang/invoke/MethodHandle" ∧ q.1.cls ≠ "java/lang/invoke/VarHandle") ∧ Cond.instantiable q.1.cls q.2 ∈ tables_1 ∧ Cond.privateMethod q.1 ∈ tables_1 ∧ Cond.instanceMethod q.1 ∈ tables_1
theorem lw_p0 : lw_okq (⟨"EvenSpring", "found", "(I)I"⟩, 9) := ⟨⟨by decide +kernel, by decide +kernel⟩, List.mem_of_getElem? (i := 16) (by decide +kernel), List.mem_of_getElem? (i := 204) (by decide +kernel), List.mem_of_getElem? (i := 205) (by decide +kernel)⟩
theorem lw_p1 : lw_okq (⟨"EvenSpring$Calendar", "runsAsNew", "(I)I"⟩, 1) := ⟨⟨by decide +kernel, by decide +kernel⟩, List.mem_of_getElem? (i := 33) (by decide +kernel), List.mem_of_getElem? (i := 273) (by decide +kernel), List.mem_of_getElem? (i := 274) (by decide +kernel)⟩
theorem lw_p2 : lw_okq (⟨"EvenSpring$Calendar", "length", "()I"⟩, 1) := ⟨⟨by decide +kernel, by decide +kernel⟩, List.mem_of_getElem? (i := 33) (by decide +kernel), List.mem_of_getElem? (i := 277) (by decide +kernel), List.mem_of_getElem? (i := 278) (by decide +kernel)⟩
theorem lw_p3 : lw_okq (⟨"EvenSpring$Spring", "drawJug", "(Z)V"⟩, 9) := ⟨⟨by decide +kernel, by decide +kernel⟩, List.mem_of_getElem? (i := 24) (by decide +kernel), List.mem_of_getElem? (i := 380) (by decide +kernel), List.mem_of_getElem? (i := 381) (by decide +kernel)⟩
theorem lw_p4 : lw_okq (⟨"EvenSpring", "lookAhead", "(I)V"⟩, 9) := ⟨⟨by decide +kernel, by decide +kernel⟩, List.mem_of_getElem? (i := 16) (by decide +kernel), List.mem_of_getElem? (i := 407) (by decide +kernel), List.mem_of_getElem? (i := 408) (by decide +kernel)⟩
theorem lw_p5 : lw_okq (⟨"EvenSpring", "tryDays", "(LEvenSpring$Pilgrim;III)V"⟩, 9) := ⟨⟨by decide +kernel, by decide +kernel⟩, List.mem_of_getElem? (i := 16) (by decide +kernel), List.mem_of_getElem? (i := 412) (by decide +kernel), List.mem_of_getElem? (i := 413) (by decide +kernel)⟩
theorem lw_p6 : lw_okq (⟨"EvenSpring", "daysToWell", "(LEvenSpring$Pilgrim;I)I"⟩, 9) := ⟨⟨by decide +kernel, by decide +kernel⟩, List.mem_of_getElem? (i := 16) (by decide +kernel), List.mem_of_getElem? (i := 425) (by decide +kernel), List.mem_of_getElem? (i := 426) (by decide +kernel)⟩
theorem lw_p7 : lw_okq (⟨"EvenSpring", "agreeAhead", "(III)Z"⟩, 9) := ⟨⟨by decide +kernel, by decide +kernel⟩, List.mem_of_getElem? (i := 16) (by decide +kernel), List.mem_of_getElem? (i := 442) (by decide +kernel), List.mem_of_getElem? (i := 443) (by decide +kernel)⟩
theorem lw_p8 : lw_okq (⟨"EvenSpring", "illOfAllAhead", "(II)I"⟩, 9) := ⟨⟨by decide +kernel, by decide +kernel⟩, List.mem_of_getElem? (i := 16) (by decide +kernel), List.mem_of_getElem? (i := 468) (by decide +kernel), List.mem_of_getElem? (i := 469) (by decide +kernel)⟩
theorem lw_p9 : lw_okq (⟨"EvenSpring", "bestValue", "(IIII)I"⟩, 9) := ⟨⟨by decide +kernel, by decide +kernel⟩, List.mem_of_getElem? (i := 16) (by decide +kernel), List.mem_of_getElem? (i := 480) (by decide +kernel), List.mem_of_getElem? (i := 481) (by decide +kernel)⟩
theorem lw_p10 : lw_okq (⟨"EvenSpring", "agreementsOfTried", "(I)I"⟩, 9) := ⟨⟨by decide +kernel, by decide +kernel⟩, List.mem_of_getElem? (i := 16) (by decide +kernel), List.mem_of_getElem? (i := 494) (by decide +kernel), List.mem_of_getElem? (i := 495) (by decide +kernel)⟩
theorem lw_p11 : lw_okq (⟨"EvenSpring", "wellAhead", "(II)I"⟩, 9) := ⟨⟨by decide +kernel, by decide +kernel⟩, List.mem_of_getElem? (i := 16) (by decide +kernel), List.mem_of_getElem? (i := 506) (by decide +kernel), List.mem_of_getElem? (i := 507) (by decide +kernel)⟩
theorem lw_p12 : lw_okq (⟨"EvenSpring$SpringText", "readToken", "()V"⟩, 7) := ⟨⟨by decide +kernel, by decide +kernel⟩, List.mem_of_getElem? (i := 103) (by decide +kernel), List.mem_of_getElem? (i := 536) (by decide +kernel), List.mem_of_getElem? (i := 537) (by decide +kernel)⟩
theorem lw_p13 : lw_okq (⟨"EvenSpring$SpringText", "byteAt", "(I)I"⟩, 7) := ⟨⟨by decide +kernel, by decide +kernel⟩, List.mem_of_getElem? (i := 103) (by decide +kernel), List.mem_of_getElem? (i := 540) (by decide +kernel), List.mem_of_getElem? (i := 541) (by decide +kernel)⟩
theorem lw_p14 : lw_okq (⟨"EvenSpring$SpringText", "tellItem", "()Z"⟩, 7) := ⟨⟨by decide +kernel, by decide +kernel⟩, List.mem_of_getElem? (i := 103) (by decide +kernel), List.mem_of_getElem? (i := 551) (by decide +kernel), List.mem_of_getElem? (i := 552) (by decide +kernel)⟩
theorem lw_p15 : lw_okq (⟨"EvenSpring$SpringText", "isWord", "(Ljava/lang/String;)Z"⟩, 7) := ⟨⟨by decide +kernel, by decide +kernel⟩, List.mem_of_getElem? (i := 103) (by decide +kernel), List.mem_of_getElem? (i := 556) (by decide +kernel), List.mem_of_getElem? (i := 557) (by decide +kernel)⟩
def lw_privs_1 : List (MethodName × Nat) := [(⟨"EvenSpring", "found", "(I)I"⟩, 9), (⟨"EvenSpring$Calendar", "runsAsNew", "(I)I"⟩, 1), (⟨"EvenSpring$Calendar", "length", "()I"⟩, 1), (⟨"EvenSpring$Spring", "drawJug", "(Z)V"⟩, 9), (⟨"EvenSpring", "lookAhead", "(I)V"⟩, 9), (⟨"EvenSpring", "tryDays", "(LEvenSpring$Pilgrim;III)V"⟩, 9), (⟨"EvenSpring", "daysToWell", "(LEvenSpring$Pilgrim;I)I"⟩, 9), (⟨"EvenSpring", "agreeAhead", "(III)Z"⟩, 9), (⟨"EvenSpring", "illOfAllAhead", "(II)I"⟩, 9), (⟨"EvenSpring", "bestValue", "(IIII)I"⟩, 9), (⟨"EvenSpring", "agreementsOfTried", "(I)I"⟩, 9), (⟨"EvenSpring", "wellAhead", "(II)I"⟩, 9), (⟨"EvenSpring$SpringText", "readToken", "()V"⟩, 7), (⟨"EvenSpring$SpringText", "byteAt", "(I)I"⟩, 7), (⟨"EvenSpring$SpringText", "tellItem", "()Z"⟩, 7), (⟨"EvenSpring$SpringText", "isWord", "(Ljava/lang/String;)Z"⟩, 7)]
theorem lw_r1 : ∀ q ∈ lw_privs_1, lw_okq q := List.forall_mem_cons.mpr ⟨lw_p0, List.forall_mem_cons.mpr ⟨lw_p1, List.forall_mem_cons.mpr ⟨lw_p2, List.forall_mem_cons.mpr ⟨lw_p3, List.forall_mem_cons.mpr ⟨lw_p4, List.forall_mem_cons.mpr ⟨lw_p5, List.forall_mem_cons.mpr ⟨lw_p6, List.forall_mem_cons.mpr ⟨lw_p7, List.forall_mem_cons.mpr ⟨lw_p8, List.forall_mem_cons.mpr ⟨lw_p9, List.forall_mem_cons.mpr ⟨lw_p10, List.forall_mem_cons.mpr ⟨lw_p11, List.forall_mem_cons.mpr ⟨lw_p12, List.forall_mem_cons.mpr ⟨lw_p13, List.forall_mem_cons.mpr ⟨lw_p14, List.forall_mem_cons.mpr ⟨lw_p15, fun _ h => absurd h List.not_mem_nil⟩⟩⟩⟩⟩⟩⟩⟩⟩⟩⟩⟩⟩⟩⟩⟩
theorem lw_p16 : lw_okq (⟨"EvenSpring$SpringText", "tellPilgrim", "()Z"⟩, 7) := ⟨⟨by decide +kernel, by decide +kernel⟩, List.mem_of_getElem? (i := 103) (by decide +kernel), List.mem_of_getElem? (i := 608) (by decide +kernel), List.mem_of_getElem? (i := 609) (by decide +kernel)⟩
theorem lw_p17 : lw_okq (⟨"EvenSpring$SpringText", "isNumber", "(II)Z"⟩, 7) := ⟨⟨by decide +kernel, by decide +kernel⟩, List.mem_of_getElem? (i := 103) (by decide +kernel), List.mem_of_getElem? (i := 612) (by decide +kernel), List.mem_of_getElem? (i := 613) (by decide +kernel)⟩
theorem lw_p18 : lw_okq (⟨"EvenSpring$SpringText", "tellTruth", "()Z"⟩, 7) := ⟨⟨by decide +kernel, by decide +kernel⟩, List.mem_of_getElem? (i := 103) (by decide +kernel), List.mem_of_getElem? (i := 620) (by decide +kernel), List.mem_of_getElem? (i := 621) (by decide +kernel)⟩
theorem lw_p19 : lw_okq (⟨"EvenSpring$SpringText", "tellPower", "()Z"⟩, 7) := ⟨⟨by decide +kernel, by decide +kernel⟩, List.mem_of_getElem? (i := 103) (by decide +kernel), List.mem_of_getElem? (i := 625) (by decide +kernel), List.mem_of_getElem? (i := 626) (by decide +kernel)⟩
theorem lw_p20 : lw_okq (⟨"EvenSpring$SpringText", "tellCalendar", "()Z"⟩, 7) := ⟨⟨by decide +kernel, by decide +kernel⟩, List.mem_of_getElem? (i := 103) (by decide +kernel), List.mem_of_getElem? (i := 629) (by decide +kernel), List.mem_of_getElem? (i := 630) (by decide +kernel)⟩
theorem lw_p21 : lw_okq (⟨"EvenSpring$SpringText", "kindNamed", "()I"⟩, 7) := ⟨⟨by decide +kernel, by decide +kernel⟩, List.mem_of_getElem? (i := 103) (by decide +kernel), List.mem_of_getElem? (i := 633) (by decide +kernel), List.mem_of_getElem? (i := 634) (by decide +kernel)⟩
theorem lw_p22 : lw_okq (⟨"EvenSpring$SpringText", "tellField", "(Ljava/lang/String;I)Z"⟩, 7) := ⟨⟨by decide +kernel, by decide +kernel⟩, List.mem_of_getElem? (i := 103) (by decide +kernel), List.mem_of_getElem? (i := 648) (by decide +kernel), List.mem_of_getElem? (i := 649) (by decide +kernel)⟩
theorem lw_p23 : lw_okq (⟨"EvenSpring", "sheetAt", "(I)LEvenSpring$Sheet;"⟩, 9) := ⟨⟨by decide +kernel, by decide +kernel⟩, List.mem_of_getElem? (i := 16) (by decide +kernel), List.mem_of_getElem? (i := 663) (by decide +kernel), List.mem_of_getElem? (i := 664) (by decide +kernel)⟩
theorem lw_p24 : lw_okq (⟨"EvenSpring$Sheet", "lowest", "(J)J"⟩, 3) := ⟨⟨by decide +kernel, by decide +kernel⟩, List.mem_of_getElem? (i := 141) (by decide +kernel), List.mem_of_getElem? (i := 694) (by decide +kernel), List.mem_of_getElem? (i := 695) (by decide +kernel)⟩
theorem lw_p25 : lw_okq (⟨"EvenSpring", "makesJustSo", "(LEvenSpring$Sheet;LEvenSpring$Pilgrim;II)Z"⟩, 9) := ⟨⟨by decide +kernel, by decide +kernel⟩, List.mem_of_getElem? (i := 16) (by decide +kernel), List.mem_of_getElem? (i := 720) (by decide +kernel), List.mem_of_getElem? (i := 721) (by decide +kernel)⟩
theorem lw_p26 : lw_okq (⟨"EvenSpringModel", "finds", "(I)I"⟩, 16) := ⟨⟨by decide +kernel, by decide +kernel⟩, List.mem_of_getElem? (i := 748) (by decide +kernel), List.mem_of_getElem? (i := 815) (by decide +kernel), List.mem_of_getElem? (i := 816) (by decide +kernel)⟩
theorem lw_p27 : lw_okq (⟨"EvenSpringModel", "adds", "(I)I"⟩, 16) := ⟨⟨by decide +kernel, by decide +kernel⟩, List.mem_of_getElem? (i := 748) (by decide +kernel), List.mem_of_getElem? (i := 820) (by decide +kernel), List.mem_of_getElem? (i := 821) (by decide +kernel)⟩
theorem lw_p28 : lw_okq (⟨"EvenSpringModel", "isCalendar", "(I)Z"⟩, 16) := ⟨⟨by decide +kernel, by decide +kernel⟩, List.mem_of_getElem? (i := 748) (by decide +kernel), List.mem_of_getElem? (i := 828) (by decide +kernel), List.mem_of_getElem? (i := 829) (by decide +kernel)⟩
theorem lw_p29 : lw_okq (⟨"EvenSpringModel", "its", "(II)I"⟩, 16) := ⟨⟨by decide +kernel, by decide +kernel⟩, List.mem_of_getElem? (i := 748) (by decide +kernel), List.mem_of_getElem? (i := 833) (by decide +kernel), List.mem_of_getElem? (i := 834) (by decide +kernel)⟩
theorem lw_p30 : lw_okq (⟨"EvenSpringModel", "becomes", "(II)I"⟩, 16) := ⟨⟨by decide +kernel, by decide +kernel⟩, List.mem_of_getElem? (i := 748) (by decide +kernel), List.mem_of_getElem? (i := 847) (by decide +kernel), List.mem_of_getElem? (i := 848) (by decide +kernel)⟩
theorem lw_p31 : lw_okq (⟨"EvenSpringModel", "dateOf", "(II)I"⟩, 16) := ⟨⟨by decide +kernel, by decide +kernel⟩, List.mem_of_getElem? (i := 748) (by decide +kernel), List.mem_of_getElem? (i := 869) (by decide +kernel), List.mem_of_getElem? (i := 870) (by decide +kernel)⟩
def lw_privs_2 : List (MethodName × Nat) := [(⟨"EvenSpring$SpringText", "tellPilgrim", "()Z"⟩, 7), (⟨"EvenSpring$SpringText", "isNumber", "(II)Z"⟩, 7), (⟨"EvenSpring$SpringText", "tellTruth", "()Z"⟩, 7), (⟨"EvenSpring$SpringText", "tellPower", "()Z"⟩, 7), (⟨"EvenSpring$SpringText", "tellCalendar", "()Z"⟩, 7), (⟨"EvenSpring$SpringText", "kindNamed", "()I"⟩, 7), (⟨"EvenSpring$SpringText", "tellField", "(Ljava/lang/String;I)Z"⟩, 7), (⟨"EvenSpring", "sheetAt", "(I)LEvenSpring$Sheet;"⟩, 9), (⟨"EvenSpring$Sheet", "lowest", "(J)J"⟩, 3), (⟨"EvenSpring", "makesJustSo", "(LEvenSpring$Sheet;LEvenSpring$Pilgrim;II)Z"⟩, 9), (⟨"EvenSpringModel", "finds", "(I)I"⟩, 16), (⟨"EvenSpringModel", "adds", "(I)I"⟩, 16), (⟨"EvenSpringModel", "isCalendar", "(I)Z"⟩, 16), (⟨"EvenSpringModel", "its", "(II)I"⟩, 16), (⟨"EvenSpringModel", "becomes", "(II)I"⟩, 16), (⟨"EvenSpringModel", "dateOf", "(II)I"⟩, 16)]
theorem lw_r2 : ∀ q ∈ lw_privs_2, lw_okq q := List.forall_mem_cons.mpr ⟨lw_p16, List.forall_mem_cons.mpr ⟨lw_p17, List.forall_mem_cons.mpr ⟨lw_p18, List.forall_mem_cons.mpr ⟨lw_p19, List.forall_mem_cons.mpr ⟨lw_p20, List.forall_mem_cons.mpr ⟨lw_p21, List.forall_mem_cons.mpr ⟨lw_p22, List.forall_mem_cons.mpr ⟨lw_p23, List.forall_mem_cons.mpr ⟨lw_p24, List.forall_mem_cons.mpr ⟨lw_p25, List.forall_mem_cons.mpr ⟨lw_p26, List.forall_mem_cons.mpr ⟨lw_p27, List.forall_mem_cons.mpr ⟨lw_p28, List.forall_mem_cons.mpr ⟨lw_p29, List.forall_mem_cons.mpr ⟨lw_p30, List.forall_mem_cons.mpr ⟨lw_p31, fun _ h => absurd h List.not_mem_nil⟩⟩⟩⟩⟩⟩⟩⟩⟩⟩⟩⟩⟩⟩⟩⟩
theorem lw_p32 : lw_okq (⟨"EvenSpringModel", "runs", "(II)I"⟩, 16) := ⟨⟨by decide +kernel, by decide +kernel⟩, List.mem_of_getElem? (i := 748) (by decide +kernel), List.mem_of_getElem? (i := 873) (by decide +kernel), List.mem_of_getElem? (i := 874) (by decide +kernel)⟩
theorem lw_p33 : lw_okq (⟨"EvenSpringModel", "monthOf", "(II)I"⟩, 16) := ⟨⟨by decide +kernel, by decide +kernel⟩, List.mem_of_getElem? (i := 748) (by decide +kernel), List.mem_of_getElem? (i := 877) (by decide +kernel), List.mem_of_getElem? (i := 878) (by decide +kernel)⟩
theorem lw_p34 : lw_okq (⟨"EvenSpringModel", "isHoly", "(II)Z"⟩, 16) := ⟨⟨by decide +kernel, by decide +kernel⟩, List.mem_of_getElem? (i := 748) (by decide +kernel), List.mem_of_getElem? (i := 881) (by decide +kernel), List.mem_of_getElem? (i := 882) (by decide +kernel)⟩
theorem lw_p35 : lw_okq (⟨"EvenSpringModel", "isTrust", "(I)Z"⟩, 16) := ⟨⟨by decide +kernel, by decide +kernel⟩, List.mem_of_getElem? (i := 748) (by decide +kernel), List.mem_of_getElem? (i := 894) (by decide +kernel), List.mem_of_getElem? (i := 895) (by decide +kernel)⟩
theorem lw_p36 : lw_okq (⟨"EvenSpringModel", "comes", "(II)I"⟩, 16) := ⟨⟨by decide +kernel, by decide +kernel⟩, List.mem_of_getElem? (i := 748) (by decide +kernel), List.mem_of_getElem? (i := 898) (by decide +kernel), List.mem_of_getElem? (i := 899) (by decide +kernel)⟩
theorem lw_p37 : lw_okq (⟨"EvenSpringModel", "isPilgrim", "(I)Z"⟩, 16) := ⟨⟨by decide +kernel, by decide +kernel⟩, List.mem_of_getElem? (i := 748) (by decide +kernel), List.mem_of_getElem? (i := 909) (by decide +kernel), List.mem_of_getElem? (i := 910) (by decide +kernel)⟩
theorem lw_p38 : lw_okq (⟨"EvenSpringModel", "isOf", "(II)I"⟩, 16) := ⟨⟨by decide +kernel, by decide +kernel⟩, List.mem_of_getElem? (i := 748) (by decide +kernel), List.mem_of_getElem? (i := 914) (by decide +kernel), List.mem_of_getElem? (i := 915) (by decide +kernel)⟩
theorem lw_p39 : lw_okq (⟨"EvenSpringModel", "helps", "(IZ)V"⟩, 16) := ⟨⟨by decide +kernel, by decide +kernel⟩, List.mem_of_getElem? (i := 748) (by decide +kernel), List.mem_of_getElem? (i := 927) (by decide +kernel), List.mem_of_getElem? (i := 928) (by decide +kernel)⟩
theorem lw_p40 : lw_okq (⟨"EvenSpringModel", "bathes", "(I)V"⟩, 16) := ⟨⟨by decide +kernel, by decide +kernel⟩, List.mem_of_getElem? (i := 748) (by decide +kernel), List.mem_of_getElem? (i := 935) (by decide +kernel), List.mem_of_getElem? (i := 936) (by decide +kernel)⟩
theorem lw_p41 : lw_okq (⟨"EvenSpringModel", "goesOn", "(I)V"⟩, 16) := ⟨⟨by decide +kernel, by decide +kernel⟩, List.mem_of_getElem? (i := 748) (by decide +kernel), List.mem_of_getElem? (i := 945) (by decide +kernel), List.mem_of_getElem? (i := 946) (by decide +kernel)⟩
theorem lw_p42 : lw_okq (⟨"EvenSpringModel", "day", "()V"⟩, 16) := ⟨⟨by decide +kernel, by decide +kernel⟩, List.mem_of_getElem? (i := 748) (by decide +kernel), List.mem_of_getElem? (i := 949) (by decide +kernel), List.mem_of_getElem? (i := 950) (by decide +kernel)⟩
theorem lw_p43 : lw_okq (⟨"EvenSpringModel", "wellOnes", "()I"⟩, 16) := ⟨⟨by decide +kernel, by decide +kernel⟩, List.mem_of_getElem? (i := 748) (by decide +kernel), List.mem_of_getElem? (i := 953) (by decide +kernel), List.mem_of_getElem? (i := 954) (by decide +kernel)⟩
theorem lw_p44 : lw_okq (⟨"EvenSpringModel", "together", "(I)I"⟩, 16) := ⟨⟨by decide +kernel, by decide +kernel⟩, List.mem_of_getElem? (i := 748) (by decide +kernel), List.mem_of_getElem? (i := 964) (by decide +kernel), List.mem_of_getElem? (i := 965) (by decide +kernel)⟩
theorem lw_p45 : lw_okq (⟨"EvenSpringModel", "laysAside", "()V"⟩, 16) := ⟨⟨by decide +kernel, by decide +kernel⟩, List.mem_of_getElem? (i := 748) (by decide +kernel), List.mem_of_getElem? (i := 972) (by decide +kernel), List.mem_of_getElem? (i := 973) (by decide +kernel)⟩
theorem lw_p46 : lw_okq (⟨"EvenSpringModel", "takesBack", "(I)I"⟩, 16) := ⟨⟨by decide +kernel, by decide +kernel⟩, List.mem_of_getElem? (i := 748) (by decide +kernel), List.mem_of_getElem? (i := 976) (by decide +kernel), List.mem_of_getElem? (i := 977) (by decide +kernel)⟩
theorem lw_p47 : lw_okq (⟨"EvenSpringModel", "wellIn", "(I)I"⟩, 16) := ⟨⟨by decide +kernel, by decide +kernel⟩, List.mem_of_getElem? (i := 748) (by decide +kernel), List.mem_of_getElem? (i := 984) (by decide +kernel), List.mem_of_getElem? (i := 985) (by decide +kernel)⟩
def lw_privs_3 : List (MethodName × Nat) := [(⟨"EvenSpringModel", "runs", "(II)I"⟩, 16), (⟨"EvenSpringModel", "monthOf", "(II)I"⟩, 16), (⟨"EvenSpringModel", "isHoly", "(II)Z"⟩, 16), (⟨"EvenSpringModel", "isTrust", "(I)Z"⟩, 16), (⟨"EvenSpringModel", "comes", "(II)I"⟩, 16), (⟨"EvenSpringModel", "isPilgrim", "(I)Z"⟩, 16), (⟨"EvenSpringModel", "isOf", "(II)I"⟩, 16), (⟨"EvenSpringModel", "helps", "(IZ)V"⟩, 16), (⟨"EvenSpringModel", "bathes", "(I)V"⟩, 16), (⟨"EvenSpringModel", "goesOn", "(I)V"⟩, 16), (⟨"EvenSpringModel", "day", "()V"⟩, 16), (⟨"EvenSpringModel", "wellOnes", "()I"⟩, 16), (⟨"EvenSpringModel", "together", "(I)I"⟩, 16), (⟨"EvenSpringModel", "laysAside", "()V"⟩, 16), (⟨"EvenSpringModel", "takesBack", "(I)I"⟩, 16), (⟨"EvenSpringModel", "wellIn", "(I)I"⟩, 16)]
theorem lw_r3 : ∀ q ∈ lw_privs_3, lw_okq q := List.forall_mem_cons.mpr ⟨lw_p32, List.forall_mem_cons.mpr ⟨lw_p33, List.forall_mem_cons.mpr ⟨lw_p34, List.forall_mem_cons.mpr ⟨lw_p35, List.forall_mem_cons.mpr ⟨lw_p36, List.forall_mem_cons.mpr ⟨lw_p37, List.forall_mem_cons.mpr ⟨lw_p38, List.forall_mem_cons.mpr ⟨lw_p39, List.forall_mem_cons.mpr ⟨lw_p40, List.forall_mem_cons.mpr ⟨lw_p41, List.forall_mem_cons.mpr ⟨lw_p42, List.forall_mem_cons.mpr ⟨lw_p43, List.forall_mem_cons.mpr ⟨lw_p44, List.forall_mem_cons.mpr ⟨lw_p45, List.forall_mem_cons.mpr ⟨lw_p46, List.forall_mem_cons.mpr ⟨lw_p47, fun _ h => absurd h List.not_mem_nil⟩⟩⟩⟩⟩⟩⟩⟩⟩⟩⟩⟩⟩⟩⟩⟩
theorem lw_p48 : lw_okq (⟨"EvenSpringModel", "areTwo", "(II)Z"⟩, 16) := ⟨⟨by decide +kernel, by decide +kernel⟩, List.mem_of_getElem? (i := 748) (by decide +kernel), List.mem_of_getElem? (i := 997) (by decide +kernel), List.mem_of_getElem? (i := 998) (by decide +kernel)⟩
theorem lw_p49 : lw_okq (⟨"EvenSpringModel", "agreed", "(III)I"⟩, 16) := ⟨⟨by decide +kernel, by decide +kernel⟩, List.mem_of_getElem? (i := 748) (by decide +kernel), List.mem_of_getElem? (i := 1001) (by decide +kernel), List.mem_of_getElem? (i := 1002) (by decide +kernel)⟩
theorem lw_p50 : lw_okq (⟨"EvenSpringModel", "isAgreed", "(III)Z"⟩, 16) := ⟨⟨by decide +kernel, by decide +kernel⟩, List.mem_of_getElem? (i := 748) (by decide +kernel), List.mem_of_getElem? (i := 1005) (by decide +kernel), List.mem_of_getElem? (i := 1006) (by decide +kernel)⟩
theorem lw_p51 : lw_okq (⟨"EvenSpringModel", "holyBy", "(I)I"⟩, 16) := ⟨⟨by decide +kernel, by decide +kernel⟩, List.mem_of_getElem? (i := 748) (by decide +kernel), List.mem_of_getElem? (i := 1017) (by decide +kernel), List.mem_of_getElem? (i := 1018) (by decide +kernel)⟩
theorem lw_p52 : lw_okq (⟨"EvenSpringModel", "mostAgreed", "(IIII)I"⟩, 16) := ⟨⟨by decide +kernel, by decide +kernel⟩, List.mem_of_getElem? (i := 748) (by decide +kernel), List.mem_of_getElem? (i := 1045) (by decide +kernel), List.mem_of_getElem? (i := 1046) (by decide +kernel)⟩
theorem lw_p53 : lw_okq (⟨"EvenSpringModel", "saves", "()V"⟩, 16) := ⟨⟨by decide +kernel, by decide +kernel⟩, List.mem_of_getElem? (i := 748) (by decide +kernel), List.mem_of_getElem? (i := 1069) (by decide +kernel), List.mem_of_getElem? (i := 1070) (by decide +kernel)⟩
theorem lw_p54 : lw_okq (⟨"EvenSpringModel", "token", "()V"⟩, 16) := ⟨⟨by decide +kernel, by decide +kernel⟩, List.mem_of_getElem? (i := 748) (by decide +kernel), List.mem_of_getElem? (i := 1073) (by decide +kernel), List.mem_of_getElem? (i := 1074) (by decide +kernel)⟩
theorem lw_p55 : lw_okq (⟨"EvenSpringModel", "byteAt", "(I)I"⟩, 16) := ⟨⟨by decide +kernel, by decide +kernel⟩, List.mem_of_getElem? (i := 748) (by decide +kernel), List.mem_of_getElem? (i := 1077) (by decide +kernel), List.mem_of_getElem? (i := 1078) (by decide +kernel)⟩
theorem lw_p56 : lw_okq (⟨"EvenSpringModel", "item", "()V"⟩, 16) := ⟨⟨by decide +kernel, by decide +kernel⟩, List.mem_of_getElem? (i := 748) (by decide +kernel), List.mem_of_getElem? (i := 1091) (by decide +kernel), List.mem_of_getElem? (i := 1092) (by decide +kernel)⟩
theorem lw_p57 : lw_okq (⟨"EvenSpringModel", "kindHere", "()I"⟩, 16) := ⟨⟨by decide +kernel, by decide +kernel⟩, List.mem_of_getElem? (i := 748) (by decide +kernel), List.mem_of_getElem? (i := 1095) (by decide +kernel), List.mem_of_getElem? (i := 1096) (by decide +kernel)⟩
theorem lw_p58 : lw_okq (⟨"EvenSpringModel", "word", "()J"⟩, 16) := ⟨⟨by decide +kernel, by decide +kernel⟩, List.mem_of_getElem? (i := 748) (by decide +kernel), List.mem_of_getElem? (i := 1099) (by decide +kernel), List.mem_of_getElem? (i := 1100) (by decide +kernel)⟩
theorem lw_p59 : lw_okq (⟨"EvenSpringModel", "calendarItem", "(I)V"⟩, 16) := ⟨⟨by decide +kernel, by decide +kernel⟩, List.mem_of_getElem? (i := 748) (by decide +kernel), List.mem_of_getElem? (i := 1111) (by decide +kernel), List.mem_of_getElem? (i := 1112) (by decide +kernel)⟩
theorem lw_p60 : lw_okq (⟨"EvenSpringModel", "must", "(Z)V"⟩, 16) := ⟨⟨by decide +kernel, by decide +kernel⟩, List.mem_of_getElem? (i := 748) (by decide +kernel), List.mem_of_getElem? (i := 1115) (by decide +kernel), List.mem_of_getElem? (i := 1116) (by decide +kernel)⟩
theorem lw_p61 : lw_okq (⟨"EvenSpringModel", "partItem", "(JIII)V"⟩, 16) := ⟨⟨by decide +kernel, by decide +kernel⟩, List.mem_of_getElem? (i := 748) (by decide +kernel), List.mem_of_getElem? (i := 1120) (by decide +kernel), List.mem_of_getElem? (i := 1121) (by decide +kernel)⟩
theorem lw_p62 : lw_okq (⟨"EvenSpringModel", "number", "(II)V"⟩, 16) := ⟨⟨by decide +kernel, by decide +kernel⟩, List.mem_of_getElem? (i := 748) (by decide +kernel), List.mem_of_getElem? (i := 1124) (by decide +kernel), List.mem_of_getElem? (i := 1125) (by decide +kernel)⟩
theorem lw_p63 : lw_okq (⟨"EvenSpringModel", "pilgrimItem", "()V"⟩, 16) := ⟨⟨by decide +kernel, by decide +kernel⟩, List.mem_of_getElem? (i := 748) (by decide +kernel), List.mem_of_getElem? (i := 1132) (by decide +kernel), List.mem_of_getElem? (i := 1133) (by decide +kernel)⟩
def lw_privs_4 : List (MethodName × Nat) := [(⟨"EvenSpringModel", "areTwo", "(II)Z"⟩, 16), (⟨"EvenSpringModel", "agreed", "(III)I"⟩, 16), (⟨"EvenSpringModel", "isAgreed", "(III)Z"⟩, 16), (⟨"EvenSpringModel", "holyBy", "(I)I"⟩, 16), (⟨"EvenSpringModel", "mostAgreed", "(IIII)I"⟩, 16), (⟨"EvenSpringModel", "saves", "()V"⟩, 16), (⟨"EvenSpringModel", "token", "()V"⟩, 16), (⟨"EvenSpringModel", "byteAt", "(I)I"⟩, 16), (⟨"EvenSpringModel", "item", "()V"⟩, 16), (⟨"EvenSpringModel", "kindHere", "()I"⟩, 16), (⟨"EvenSpringModel", "word", "()J"⟩, 16), (⟨"EvenSpringModel", "calendarItem", "(I)V"⟩, 16), (⟨"EvenSpringModel", "must", "(Z)V"⟩, 16), (⟨"EvenSpringModel", "partItem", "(JIII)V"⟩, 16), (⟨"EvenSpringModel", "number", "(II)V"⟩, 16), (⟨"EvenSpringModel", "pilgrimItem", "()V"⟩, 16)]
theorem lw_r4 : ∀ q ∈ lw_privs_4, lw_okq q := List.forall_mem_cons.mpr ⟨lw_p48, List.forall_mem_cons.mpr ⟨lw_p49, List.forall_mem_cons.mpr ⟨lw_p50, List.forall_mem_cons.mpr ⟨lw_p51, List.forall_mem_cons.mpr ⟨lw_p52, List.forall_mem_cons.mpr ⟨lw_p53, List.forall_mem_cons.mpr ⟨lw_p54, List.forall_mem_cons.mpr ⟨lw_p55, List.forall_mem_cons.mpr ⟨lw_p56, List.forall_mem_cons.mpr ⟨lw_p57, List.forall_mem_cons.mpr ⟨lw_p58, List.forall_mem_cons.mpr ⟨lw_p59, List.forall_mem_cons.mpr ⟨lw_p60, List.forall_mem_cons.mpr ⟨lw_p61, List.forall_mem_cons.mpr ⟨lw_p62, List.forall_mem_cons.mpr ⟨lw_p63, fun _ h => absurd h List.not_mem_nil⟩⟩⟩⟩⟩⟩⟩⟩⟩⟩⟩⟩⟩⟩⟩⟩
theorem lw_p64 : lw_okq (⟨"EvenSpringModel", "putsBack", "()V"⟩, 16) := ⟨⟨by decide +kernel, by decide +kernel⟩, List.mem_of_getElem? (i := 748) (by decide +kernel), List.mem_of_getElem? (i := 1139) (by decide +kernel), List.mem_of_getElem? (i := 1140) (by decide +kernel)⟩
theorem lw_p65 : lw_okq (⟨"EvenSpringModel", "wrongSheet", "(I)I"⟩, 16) := ⟨⟨by decide +kernel, by decide +kernel⟩, List.mem_of_getElem? (i := 748) (by decide +kernel), List.mem_of_getElem? (i := 1155) (by decide +kernel), List.mem_of_getElem? (i := 1156) (by decide +kernel)⟩
theorem lw_p66 : lw_okq (⟨"EvenSpringModel", "wrongBook", "(II)I"⟩, 16) := ⟨⟨by decide +kernel, by decide +kernel⟩, List.mem_of_getElem? (i := 748) (by decide +kernel), List.mem_of_getElem? (i := 1175) (by decide +kernel), List.mem_of_getElem? (i := 1176) (by decide +kernel)⟩
theorem lw_p67 : lw_okq (⟨"EvenSpringModel", "isBook", "(II)Z"⟩, 16) := ⟨⟨by decide +kernel, by decide +kernel⟩, List.mem_of_getElem? (i := 748) (by decide +kernel), List.mem_of_getElem? (i := 1183) (by decide +kernel), List.mem_of_getElem? (i := 1184) (by decide +kernel)⟩
def lw_privs_5 : List (MethodName × Nat) := [(⟨"EvenSpringModel", "putsBack", "()V"⟩, 16), (⟨"EvenSpringModel", "wrongSheet", "(I)I"⟩, 16), (⟨"EvenSpringModel", "wrongBook", "(II)I"⟩, 16), (⟨"EvenSpringModel", "isBook", "(II)Z"⟩, 16)]
theorem lw_r5 : ∀ q ∈ lw_privs_5, lw_okq q := List.forall_mem_cons.mpr ⟨lw_p64, List.forall_mem_cons.mpr ⟨lw_p65, List.forall_mem_cons.mpr ⟨lw_p66, List.forall_mem_cons.mpr ⟨lw_p67, fun _ h => absurd h List.not_mem_nil⟩⟩⟩⟩
def lw_privs : List (MethodName × Nat) := lw_privs_1 ++ (lw_privs_2 ++ (lw_privs_3 ++ (lw_privs_4 ++ (lw_privs_5))))
def lw_tbl : List Cond := k2_sels lw_privs ++ tables_1
theorem lw_privs_ok : ∀ q ∈ lw_privs, lw_okq q := by
  show ∀ q ∈ lw_privs_1 ++ (lw_privs_2 ++ (lw_privs_3 ++ (lw_privs_4 ++ (lw_privs_5)))), lw_okq q
  exact List.forall_mem_append.mpr ⟨lw_r1, List.forall_mem_append.mpr ⟨lw_r2, List.forall_mem_append.mpr ⟨lw_r3, List.forall_mem_append.mpr ⟨lw_r4, lw_r5⟩⟩⟩⟩
theorem goodIn_r {big : List Cond} (ws : List Cond) (ps : List Nat) (hp : ws = ps.filterMap (fun i => big[i]?)) (h : ws.all goodWord = true) : GoodIn big ws := by
  intro w hw
  have h1 := List.all_eq_true.mp h w hw
  rw [hp] at hw
  obtain ⟨i, -, hi⟩ := List.mem_filterMap.mp hw
  have hm : w ∈ big := by first | exact List.mem_of_getElem? hi | exact List.getElem?_mem hi
  exact ⟨hm, good_of_word h1⟩
theorem goodIn_app {big a b : List Cond} (ha : GoodIn big a) (hb : GoodIn big b) : GoodIn big (a ++ b) := fun w h => (List.mem_append.mp h).elim (ha w) (hb w)
theorem goodIn_ca {big a b : List Cond} {c : Cond} (ha : GoodIn big (c :: a)) (hb : GoodIn big b) : GoodIn big (c :: (a ++ b)) := fun w h => (List.mem_cons.mp h).elim (fun e => ha w (List.mem_cons.mpr (Or.inl e))) (fun h => (List.mem_append.mp h).elim (fun h => ha w (List.mem_cons.mpr (Or.inr h))) (hb w))
theorem goodIn_sub {big ws : List Cond} (hm : ∀ w ∈ ws, w ∈ big) (h : ws.all goodWord = true) : GoodIn big ws := fun w hw => ⟨hm w hw, good_of_word (List.all_eq_true.mp h w hw)⟩
def RX0 : String := "EvenSpring$Calendar"
def TX0 : u_T := fun k => match k with
  | _ => ("EvenSpring$Calendar", "fields", "[I", true)
def tyX0 : Nat → FieldType := fun k => match k with
  | _ => .array .int
abbrev wsX00 : List Cond := u_ws RX0 TX0 1
theorem nmX0 : ∀ a, a < 1 → ∀ b, b < 1 → a ≠ b → (TX0 a).2.1 ≠ (TX0 b).2.1 := by decide +kernel
theorem tyX0_ok : ∀ k, k < 1 → parseFieldDescriptor (TX0 k).2.2.1 = some (tyX0 k) := by decide +kernel
abbrev cX0_init : ByteArray := prog_2_method_1_code
def yX0_init : MethodName := ⟨RX0, "<init>", "()V"⟩
abbrev cX0_isField : ByteArray := prog_2_method_2_code
def yX0_isField : MethodName := ⟨RX0, "isField", "(I)Z"⟩
abbrev cX0_allows : ByteArray := prog_2_method_3_code
def yX0_allows : MethodName := ⟨RX0, "allows", "(II)Z"⟩
abbrev cX0_least : ByteArray := prog_2_method_4_code
def yX0_least : MethodName := ⟨RX0, "least", "(I)I"⟩
abbrev cX0_greatest : ByteArray := prog_2_method_5_code
def yX0_greatest : MethodName := ⟨RX0, "greatest", "(I)I"⟩
abbrev cX0_startAs : ByteArray := prog_2_method_6_code
def yX0_startAs : MethodName := ⟨RX0, "startAs", "(I)V"⟩
abbrev cX0_become : ByteArray := prog_2_method_7_code
def yX0_become : MethodName := ⟨RX0, "become", "(LEvenSpring$Calendar;)V"⟩
abbrev cX0_value : ByteArray := prog_2_method_8_code
def yX0_value : MethodName := ⟨RX0, "value", "(I)I"⟩
abbrev cX0_change : ByteArray := prog_2_method_9_code
def yX0_change : MethodName := ⟨RX0, "change", "(II)I"⟩
abbrev cX0_isOfKind : ByteArray := prog_2_method_10_code
def yX0_isOfKind : MethodName := ⟨RX0, "isOfKind", "(I)Z"⟩
abbrev cX0_length : ByteArray := prog_2_method_11_code
def yX0_length : MethodName := ⟨RX0, "length", "()I"⟩
abbrev cX0_runsAt : ByteArray := prog_2_method_12_code
def yX0_runsAt : MethodName := ⟨RX0, "runsAt", "(I)I"⟩
abbrev cX0_runsAsNew : ByteArray := prog_2_method_13_code
def yX0_runsAsNew : MethodName := ⟨RX0, "runsAsNew", "(I)I"⟩
abbrev cX0_jugDaysUpTo : ByteArray := prog_2_method_14_code
def yX0_jugDaysUpTo : MethodName := ⟨RX0, "jugDaysUpTo", "(I)I"⟩
abbrev cX0_dateAt : ByteArray := prog_2_method_15_code
def yX0_dateAt : MethodName := ⟨RX0, "dateAt", "(I)I"⟩
abbrev cX0_monthAt : ByteArray := prog_2_method_16_code
def yX0_monthAt : MethodName := ⟨RX0, "monthAt", "(I)I"⟩
abbrev cX0_isHoly : ByteArray := prog_2_method_17_code
def yX0_isHoly : MethodName := ⟨RX0, "isHoly", "(I)Z"⟩
def RX1 : String := "EvenSpring$Pilgrim"
def TX1 : u_T := fun k => match k with
  | 0 => ("EvenSpring$Pilgrim", "ill", "I", false)
  | 1 => ("EvenSpring$Pilgrim", "trusts", "I", false)
  | _ => ("EvenSpring$Pilgrim", "bathed", "I", false)
def tyX1 : Nat → FieldType := fun k => match k with
  | 0 => .int
  | 1 => .int
  | _ => .int
abbrev wsX10 : List Cond := u_ws RX1 TX1 3
theorem nmX1 : ∀ a, a < 3 → ∀ b, b < 3 → a ≠ b → (TX1 a).2.1 ≠ (TX1 b).2.1 := by decide +kernel
theorem tyX1_ok : ∀ k, k < 3 → parseFieldDescriptor (TX1 k).2.2.1 = some (tyX1 k) := by decide +kernel
abbrev cX1_init : ByteArray := prog_3_method_1_code
def yX1_init : MethodName := ⟨RX1, "<init>", "()V"⟩
abbrev cX1_startWith : ByteArray := prog_3_method_2_code
def yX1_startWith : MethodName := ⟨RX1, "startWith", "(II)V"⟩
abbrev cX1_become : ByteArray := prog_3_method_3_code
def yX1_become : MethodName := ⟨RX1, "become", "(LEvenSpring$Pilgrim;)V"⟩
abbrev cX1_takeWater : ByteArray := prog_3_method_4_code
def yX1_takeWater : MethodName := ⟨RX1, "takeWater", "(ZI)V"⟩
abbrev cX1_takeBath : ByteArray := prog_3_method_5_code
def yX1_takeBath : MethodName := ⟨RX1, "takeBath", "(ZI)V"⟩
abbrev cX1_passDay : ByteArray := prog_3_method_6_code
def yX1_passDay : MethodName := ⟨RX1, "passDay", "(III)V"⟩
def RX2 : String := "EvenSpring$Sheet"
def TX2 : u_T := fun k => match k with
  | 0 => ("EvenSpring$Sheet", "bits", "I", false)
  | 1 => ("EvenSpring$Sheet", "size", "I", false)
  | _ => ("EvenSpring$Sheet", "numbers", "[J", true)
def tyX2 : Nat → FieldType := fun k => match k with
  | 0 => .int
  | 1 => .int
  | _ => .array .long
abbrev wsX20 : List Cond := u_ws RX2 TX2 3
theorem nmX2 : ∀ a, a < 3 → ∀ b, b < 3 → a ≠ b → (TX2 a).2.1 ≠ (TX2 b).2.1 := by decide +kernel
theorem tyX2_ok : ∀ k, k < 3 → parseFieldDescriptor (TX2 k).2.2.1 = some (tyX2 k) := by decide +kernel
abbrev cX2_init : ByteArray := prog_4_method_1_code
def yX2_init : MethodName := ⟨RX2, "<init>", "()V"⟩
abbrev cX2_allows : ByteArray := prog_4_method_2_code
def yX2_allows : MethodName := ⟨RX2, "allows", "(I)Z"⟩
abbrev cX2_lay : ByteArray := prog_4_method_3_code
def yX2_lay : MethodName := ⟨RX2, "lay", "(II)V"⟩
abbrev cX2_isMissing : ByteArray := prog_4_method_4_code
def yX2_isMissing : MethodName := ⟨RX2, "isMissing", "()Z"⟩
abbrev cX2_hasRange : ByteArray := prog_4_method_5_code
def yX2_hasRange : MethodName := ⟨RX2, "hasRange", "(II)Z"⟩
abbrev cX2_numberAt : ByteArray := prog_4_method_6_code
def yX2_numberAt : MethodName := ⟨RX2, "numberAt", "(I)J"⟩
abbrev cX2_put : ByteArray := prog_4_method_7_code
def yX2_put : MethodName := ⟨RX2, "put", "(IJ)V"⟩
abbrev cX2_lowest : ByteArray := prog_4_method_8_code
def yX2_lowest : MethodName := ⟨RX2, "lowest", "(J)J"⟩
def RX3 : String := "EvenSpring$Spring"
def TX3 : u_T := fun k => match k with
  | 0 => ("EvenSpring$Spring", "day", "I", false)
  | 1 => ("EvenSpring$Spring", "power", "I", false)
  | 2 => ("EvenSpring$Spring", "truth", "I", false)
  | 3 => ("EvenSpring$Spring", "good", "I", false)
  | 4 => ("EvenSpring$Spring", "bad", "I", false)
  | 5 => ("EvenSpring$Spring", "calendarCount", "I", false)
  | 6 => ("EvenSpring$Spring", "pilgrimCount", "I", false)
  | 7 => ("EvenSpring$Spring", "calendars", "[LEvenSpring$Calendar;", true)
  | _ => ("EvenSpring$Spring", "pilgrims", "[LEvenSpring$Pilgrim;", true)
def tyX3 : Nat → FieldType := fun k => match k with
  | 0 => .int
  | 1 => .int
  | 2 => .int
  | 3 => .int
  | 4 => .int
  | 5 => .int
  | 6 => .int
  | 7 => .array (.object "EvenSpring$Calendar")
  | _ => .array (.object "EvenSpring$Pilgrim")
abbrev wsX30 : List Cond := u_ws RX3 TX3 9
theorem nmX3 : ∀ a, a < 9 → ∀ b, b < 9 → a ≠ b → (TX3 a).2.1 ≠ (TX3 b).2.1 := by decide +kernel
theorem tyX3_ok : ∀ k, k < 9 → parseFieldDescriptor (TX3 k).2.2.1 = some (tyX3 k) := by decide +kernel
abbrev cX3_init : ByteArray := prog_5_method_1_code
def yX3_init : MethodName := ⟨RX3, "<init>", "()V"⟩
abbrev cX3_become : ByteArray := prog_5_method_2_code
def yX3_become : MethodName := ⟨RX3, "become", "(LEvenSpring$Spring;)V"⟩
abbrev cX3_calendarAt : ByteArray := prog_5_method_3_code
def yX3_calendarAt : MethodName := ⟨RX3, "calendarAt", "(I)LEvenSpring$Calendar;"⟩
abbrev cX3_pilgrimAt : ByteArray := prog_5_method_4_code
def yX3_pilgrimAt : MethodName := ⟨RX3, "pilgrimAt", "(I)LEvenSpring$Pilgrim;"⟩
abbrev cX3_hasBoth : ByteArray := prog_5_method_5_code
def yX3_hasBoth : MethodName := ⟨RX3, "hasBoth", "(II)Z"⟩
abbrev cX3_canTrust : ByteArray := prog_5_method_6_code
def yX3_canTrust : MethodName := ⟨RX3, "canTrust", "(I)Z"⟩
abbrev cX3_addCalendar : ByteArray := prog_5_method_7_code
def yX3_addCalendar : MethodName := ⟨RX3, "addCalendar", "(I)V"⟩
abbrev cX3_addPilgrim : ByteArray := prog_5_method_8_code
def yX3_addPilgrim : MethodName := ⟨RX3, "addPilgrim", "(II)V"⟩
abbrev cX3_isHolyBy : ByteArray := prog_5_method_9_code
def yX3_isHolyBy : MethodName := ⟨RX3, "isHolyBy", "(II)Z"⟩
abbrev cX3_holySet : ByteArray := prog_5_method_10_code
def yX3_holySet : MethodName := ⟨RX3, "holySet", "(I)I"⟩
abbrev cX3_takeJug : ByteArray := prog_5_method_11_code
def yX3_takeJug : MethodName := ⟨RX3, "takeJug", "(Z)Z"⟩
abbrev cX3_passDay : ByteArray := prog_5_method_12_code
def yX3_passDay : MethodName := ⟨RX3, "passDay", "()V"⟩
abbrev cX3_drawJug : ByteArray := prog_5_method_13_code
def yX3_drawJug : MethodName := ⟨RX3, "drawJug", "(Z)V"⟩
abbrev cX3_wellSet : ByteArray := prog_5_method_14_code
def yX3_wellSet : MethodName := ⟨RX3, "wellSet", "()I"⟩
abbrev cX3_illOfAll : ByteArray := prog_5_method_15_code
def yX3_illOfAll : MethodName := ⟨RX3, "illOfAll", "()I"⟩
abbrev cX3_bathedOfAll : ByteArray := prog_5_method_16_code
def yX3_bathedOfAll : MethodName := ⟨RX3, "bathedOfAll", "()I"⟩
def RX4 : String := "EvenSpring$SpringText"
def TX4 : u_T := fun k => match k with
  | 0 => ("EvenSpring$SpringText", "tape", "[B", true)
  | 1 => ("EvenSpring$SpringText", "length", "I", false)
  | 2 => ("EvenSpring$SpringText", "told", "LEvenSpring$Spring;", true)
  | 3 => ("EvenSpring$SpringText", "token", "I", false)
  | 4 => ("EvenSpring$SpringText", "start", "I", false)
  | 5 => ("EvenSpring$SpringText", "end", "I", false)
  | _ => ("EvenSpring$SpringText", "number", "I", false)
def tyX4 : Nat → FieldType := fun k => match k with
  | 0 => .array .byte
  | 1 => .int
  | 2 => .object "EvenSpring$Spring"
  | 3 => .int
  | 4 => .int
  | 5 => .int
  | _ => .int
abbrev wsX40 : List Cond := u_ws RX4 TX4 7
theorem nmX4 : ∀ a, a < 7 → ∀ b, b < 7 → a ≠ b → (TX4 a).2.1 ≠ (TX4 b).2.1 := by decide +kernel
theorem tyX4_ok : ∀ k, k < 7 → parseFieldDescriptor (TX4 k).2.2.1 = some (tyX4 k) := by decide +kernel
abbrev cX4_init : ByteArray := prog_6_method_1_code
def yX4_init : MethodName := ⟨RX4, "<init>", "()V"⟩
abbrev cX4_add : ByteArray := prog_6_method_2_code
def yX4_add : MethodName := ⟨RX4, "add", "(B)V"⟩
abbrev cX4_tell : ByteArray := prog_6_method_3_code
def yX4_tell : MethodName := ⟨RX4, "tell", "(LEvenSpring$Spring;)I"⟩
abbrev cX4_tellItem : ByteArray := prog_6_method_4_code
def yX4_tellItem : MethodName := ⟨RX4, "tellItem", "()Z"⟩
abbrev cX4_tellTruth : ByteArray := prog_6_method_5_code
def yX4_tellTruth : MethodName := ⟨RX4, "tellTruth", "()Z"⟩
abbrev cX4_tellPower : ByteArray := prog_6_method_6_code
def yX4_tellPower : MethodName := ⟨RX4, "tellPower", "()Z"⟩
abbrev cX4_tellCalendar : ByteArray := prog_6_method_7_code
def yX4_tellCalendar : MethodName := ⟨RX4, "tellCalendar", "()Z"⟩
abbrev cX4_tellField : ByteArray := prog_6_method_8_code
def yX4_tellField : MethodName := ⟨RX4, "tellField", "(Ljava/lang/String;I)Z"⟩
abbrev cX4_tellPilgrim : ByteArray := prog_6_method_9_code
def yX4_tellPilgrim : MethodName := ⟨RX4, "tellPilgrim", "()Z"⟩
abbrev cX4_isNumber : ByteArray := prog_6_method_10_code
def yX4_isNumber : MethodName := ⟨RX4, "isNumber", "(II)Z"⟩
abbrev cX4_kindNamed : ByteArray := prog_6_method_11_code
def yX4_kindNamed : MethodName := ⟨RX4, "kindNamed", "()I"⟩
abbrev cX4_nameOf : ByteArray := prog_6_method_12_code
def yX4_nameOf : MethodName := ⟨RX4, "nameOf", "(I)Ljava/lang/String;"⟩
abbrev cX4_isWord : ByteArray := prog_6_method_13_code
def yX4_isWord : MethodName := ⟨RX4, "isWord", "(Ljava/lang/String;)Z"⟩
abbrev cX4_readToken : ByteArray := prog_6_method_14_code
def yX4_readToken : MethodName := ⟨RX4, "readToken", "()V"⟩
abbrev cX4_isLetter : ByteArray := prog_6_method_15_code
def yX4_isLetter : MethodName := ⟨RX4, "isLetter", "(I)Z"⟩
abbrev cX4_isDigit : ByteArray := prog_6_method_16_code
def yX4_isDigit : MethodName := ⟨RX4, "isDigit", "(I)Z"⟩
abbrev cX4_byteAt : ByteArray := prog_6_method_17_code
def yX4_byteAt : MethodName := ⟨RX4, "byteAt", "(I)I"⟩
def RX5 : String := "EvenSpring"
def TX5 : u_T := fun k => match k with
  | 0 => ("EvenSpring", "here", "LEvenSpring$Spring;", true)
  | 1 => ("EvenSpring", "kept", "LEvenSpring$Spring;", true)
  | 2 => ("EvenSpring", "isKept", "Z", false)
  | 3 => ("EvenSpring", "text", "LEvenSpring$SpringText;", true)
  | 4 => ("EvenSpring", "sheets", "[LEvenSpring$Sheet;", true)
  | 5 => ("EvenSpring", "findings", "[I", true)
  | 6 => ("EvenSpring", "ahead", "[I", true)
  | 7 => ("EvenSpring", "trial", "LEvenSpring$Pilgrim;", true)
  | _ => ("EvenSpring", "tried", "LEvenSpring$Calendar;", true)
def tyX5 : Nat → FieldType := fun k => match k with
  | 0 => .object "EvenSpring$Spring"
  | 1 => .object "EvenSpring$Spring"
  | 2 => .boolean
  | 3 => .object "EvenSpring$SpringText"
  | 4 => .array (.object "EvenSpring$Sheet")
  | 5 => .array .int
  | 6 => .array .int
  | 7 => .object "EvenSpring$Pilgrim"
  | _ => .object "EvenSpring$Calendar"
abbrev wsX50 : List Cond := u_ws RX5 TX5 9
theorem nmX5 : ∀ a, a < 9 → ∀ b, b < 9 → a ≠ b → (TX5 a).2.1 ≠ (TX5 b).2.1 := by decide +kernel
theorem tyX5_ok : ∀ k, k < 9 → parseFieldDescriptor (TX5 k).2.2.1 = some (tyX5 k) := by decide +kernel
abbrev cX5_init : ByteArray := prog_1_method_1_code
def yX5_init : MethodName := ⟨RX5, "<init>", "()V"⟩
abbrev cX5_calendar : ByteArray := prog_1_method_2_code
def yX5_calendar : MethodName := ⟨RX5, "calendar", "(I)I"⟩
abbrev cX5_of : ByteArray := prog_1_method_3_code
def yX5_of : MethodName := ⟨RX5, "of", "(II)I"⟩
abbrev cX5_set : ByteArray := prog_1_method_4_code
def yX5_set : MethodName := ⟨RX5, "set", "(III)I"⟩
abbrev cX5_turn : ByteArray := prog_1_method_5_code
def yX5_turn : MethodName := ⟨RX5, "turn", "(II)I"⟩
abbrev cX5_as : ByteArray := prog_1_method_6_code
def yX5_as : MethodName := ⟨RX5, "as", "(II)I"⟩
abbrev cX5_date : ByteArray := prog_1_method_7_code
def yX5_date : MethodName := ⟨RX5, "date", "(III)I"⟩
abbrev cX5_law : ByteArray := prog_1_method_8_code
def yX5_law : MethodName := ⟨RX5, "law", "(II)I"⟩
abbrev cX5_pilgrim : ByteArray := prog_1_method_9_code
def yX5_pilgrim : MethodName := ⟨RX5, "pilgrim", "(II)I"⟩
abbrev cX5_about : ByteArray := prog_1_method_10_code
def yX5_about : MethodName := ⟨RX5, "about", "(II)I"⟩
abbrev cX5_mind : ByteArray := prog_1_method_11_code
def yX5_mind : MethodName := ⟨RX5, "mind", "(III)I"⟩
abbrev cX5_drink : ByteArray := prog_1_method_12_code
def yX5_drink : MethodName := ⟨RX5, "drink", "(II)I"⟩
abbrev cX5_bathe : ByteArray := prog_1_method_13_code
def yX5_bathe : MethodName := ⟨RX5, "bathe", "(I)I"⟩
abbrev cX5_days : ByteArray := prog_1_method_14_code
def yX5_days : MethodName := ⟨RX5, "days", "(I)I"⟩
abbrev cX5_now : ByteArray := prog_1_method_15_code
def yX5_now : MethodName := ⟨RX5, "now", "(I)I"⟩
abbrev cX5_on : ByteArray := prog_1_method_16_code
def yX5_on : MethodName := ⟨RX5, "on", "(III)I"⟩
abbrev cX5_well : ByteArray := prog_1_method_17_code
def yX5_well : MethodName := ⟨RX5, "well", "(I)I"⟩
abbrev cX5_next : ByteArray := prog_1_method_18_code
def yX5_next : MethodName := ⟨RX5, "next", "(I)I"⟩
abbrev cX5_agree : ByteArray := prog_1_method_19_code
def yX5_agree : MethodName := ⟨RX5, "agree", "(III)I"⟩
abbrev cX5_row : ByteArray := prog_1_method_20_code
def yX5_row : MethodName := ⟨RX5, "row", "(III)I"⟩
abbrev cX5_meet : ByteArray := prog_1_method_21_code
def yX5_meet : MethodName := ⟨RX5, "meet", "(I)I"⟩
abbrev cX5_both : ByteArray := prog_1_method_22_code
def yX5_both : MethodName := ⟨RX5, "both", "(IIII)I"⟩
abbrev cX5_trust : ByteArray := prog_1_method_23_code
def yX5_trust : MethodName := ⟨RX5, "trust", "(I)I"⟩
abbrev cX5_truth : ByteArray := prog_1_method_24_code
def yX5_truth : MethodName := ⟨RX5, "truth", "(I)I"⟩
abbrev cX5_cure : ByteArray := prog_1_method_25_code
def yX5_cure : MethodName := ⟨RX5, "cure", "(I)I"⟩
abbrev cX5_kind : ByteArray := prog_1_method_26_code
def yX5_kind : MethodName := ⟨RX5, "kind", "(II)I"⟩
abbrev cX5_begin : ByteArray := prog_1_method_27_code
def yX5_begin : MethodName := ⟨RX5, "begin", "(II)I"⟩
abbrev cX5_power : ByteArray := prog_1_method_28_code
def yX5_power : MethodName := ⟨RX5, "power", "(I)I"⟩
abbrev cX5_feed : ByteArray := prog_1_method_29_code
def yX5_feed : MethodName := ⟨RX5, "feed", "(II)I"⟩
abbrev cX5_wipe : ByteArray := prog_1_method_30_code
def yX5_wipe : MethodName := ⟨RX5, "wipe", "()I"⟩
abbrev cX5_spring : ByteArray := prog_1_method_31_code
def yX5_spring : MethodName := ⟨RX5, "spring", "()I"⟩
abbrev cX5_sheet : ByteArray := prog_1_method_32_code
def yX5_sheet : MethodName := ⟨RX5, "sheet", "(III)I"⟩
abbrev cX5_write : ByteArray := prog_1_method_33_code
def yX5_write : MethodName := ⟨RX5, "write", "(IIJ)J"⟩
abbrev cX5_copy : ByteArray := prog_1_method_34_code
def yX5_copy : MethodName := ⟨RX5, "copy", "(IIIII)I"⟩
abbrev cX5_lays : ByteArray := prog_1_method_35_code
def yX5_lays : MethodName := ⟨RX5, "lays", "(I)I"⟩
abbrev cX5_book : ByteArray := prog_1_method_36_code
def yX5_book : MethodName := ⟨RX5, "book", "(II)I"⟩
abbrev cX5_read : ByteArray := prog_1_method_37_code
def yX5_read : MethodName := ⟨RX5, "read", "(II)I"⟩
abbrev cX5_image : ByteArray := prog_1_method_38_code
def yX5_image : MethodName := ⟨RX5, "image", "()I"⟩
abbrev cX5_undo : ByteArray := prog_1_method_39_code
def yX5_undo : MethodName := ⟨RX5, "undo", "()I"⟩
abbrev cX5_tear : ByteArray := prog_1_method_40_code
def yX5_tear : MethodName := ⟨RX5, "tear", "()I"⟩
abbrev cX5_count : ByteArray := prog_1_method_41_code
def yX5_count : MethodName := ⟨RX5, "count", "(I)I"⟩
abbrev cX5_status : ByteArray := prog_1_method_42_code
def yX5_status : MethodName := ⟨RX5, "status", "(I)I"⟩
abbrev cX5_found : ByteArray := prog_1_method_43_code
def yX5_found : MethodName := ⟨RX5, "found", "(I)I"⟩
abbrev cX5_sheetAt : ByteArray := prog_1_method_44_code
def yX5_sheetAt : MethodName := ⟨RX5, "sheetAt", "(I)LEvenSpring$Sheet;"⟩
abbrev cX5_lookAhead : ByteArray := prog_1_method_45_code
def yX5_lookAhead : MethodName := ⟨RX5, "lookAhead", "(I)V"⟩
abbrev cX5_agreeAhead : ByteArray := prog_1_method_46_code
def yX5_agreeAhead : MethodName := ⟨RX5, "agreeAhead", "(III)Z"⟩
abbrev cX5_tryDays : ByteArray := prog_1_method_47_code
def yX5_tryDays : MethodName := ⟨RX5, "tryDays", "(LEvenSpring$Pilgrim;III)V"⟩
abbrev cX5_daysToWell : ByteArray := prog_1_method_48_code
def yX5_daysToWell : MethodName := ⟨RX5, "daysToWell", "(LEvenSpring$Pilgrim;I)I"⟩
abbrev cX5_illOfAllAhead : ByteArray := prog_1_method_49_code
def yX5_illOfAllAhead : MethodName := ⟨RX5, "illOfAllAhead", "(II)I"⟩
abbrev cX5_wellAhead : ByteArray := prog_1_method_50_code
def yX5_wellAhead : MethodName := ⟨RX5, "wellAhead", "(II)I"⟩
abbrev cX5_bestValue : ByteArray := prog_1_method_51_code
def yX5_bestValue : MethodName := ⟨RX5, "bestValue", "(IIII)I"⟩
abbrev cX5_agreementsOfTried : ByteArray := prog_1_method_52_code
def yX5_agreementsOfTried : MethodName := ⟨RX5, "agreementsOfTried", "(I)I"⟩
abbrev cX5_makesJustSo : ByteArray := prog_1_method_53_code
def yX5_makesJustSo : MethodName := ⟨RX5, "makesJustSo", "(LEvenSpring$Sheet;LEvenSpring$Pilgrim;II)Z"⟩
abbrev cX5_within : ByteArray := prog_1_method_54_code
def yX5_within : MethodName := ⟨RX5, "within", "(III)Z"⟩
abbrev cX5_isIn : ByteArray := prog_1_method_55_code
def yX5_isIn : MethodName := ⟨RX5, "isIn", "(II)Z"⟩
def RX6 : String := "EvenSpringModel"
def TX6 : u_T := fun k => match k with
  | 0 => ("EvenSpringModel", "s", "[I", true)
  | 1 => ("EvenSpringModel", "keptS", "[I", true)
  | 2 => ("EvenSpringModel", "other", "[I", true)
  | 3 => ("EvenSpringModel", "aside", "[I", true)
  | 4 => ("EvenSpringModel", "statuses", "[I", true)
  | 5 => ("EvenSpringModel", "isKept", "Z", false)
  | 6 => ("EvenSpringModel", "tape", "[I", true)
  | 7 => ("EvenSpringModel", "taped", "I", false)
  | 8 => ("EvenSpringModel", "from", "I", false)
  | 9 => ("EvenSpringModel", "to", "I", false)
  | 10 => ("EvenSpringModel", "value", "I", false)
  | 11 => ("EvenSpringModel", "isWrong", "Z", false)
  | 12 => ("EvenSpringModel", "bitsOf", "[I", true)
  | 13 => ("EvenSpringModel", "sizeOf", "[I", true)
  | 14 => ("EvenSpringModel", "numbers", "[J", true)
  | _ => ("EvenSpringModel", "moved", "[J", true)
def tyX6 : Nat → FieldType := fun k => match k with
  | 0 => .array .int
  | 1 => .array .int
  | 2 => .array .int
  | 3 => .array .int
  | 4 => .array .int
  | 5 => .boolean
  | 6 => .array .int
  | 7 => .int
  | 8 => .int
  | 9 => .int
  | 10 => .int
  | 11 => .boolean
  | 12 => .array .int
  | 13 => .array .int
  | 14 => .array .long
  | _ => .array .long
abbrev wsX60 : List Cond := u_ws RX6 TX6 16
theorem nmX6 : ∀ a, a < 16 → ∀ b, b < 16 → a ≠ b → (TX6 a).2.1 ≠ (TX6 b).2.1 := by decide +kernel
theorem tyX6_ok : ∀ k, k < 16 → parseFieldDescriptor (TX6 k).2.2.1 = some (tyX6 k) := by decide +kernel
abbrev cX6_init : ByteArray := prog_8_method_1_code
def yX6_init : MethodName := ⟨RX6, "<init>", "()V"⟩
abbrev cX6_in : ByteArray := prog_8_method_2_code
def yX6_in : MethodName := ⟨RX6, "in", "(JJJ)Z"⟩
abbrev cX6_finds : ByteArray := prog_8_method_3_code
def yX6_finds : MethodName := ⟨RX6, "finds", "(I)I"⟩
abbrev cX6_saves : ByteArray := prog_8_method_4_code
def yX6_saves : MethodName := ⟨RX6, "saves", "()V"⟩
abbrev cX6_putsBack : ByteArray := prog_8_method_5_code
def yX6_putsBack : MethodName := ⟨RX6, "putsBack", "()V"⟩
abbrev cX6_laysAside : ByteArray := prog_8_method_6_code
def yX6_laysAside : MethodName := ⟨RX6, "laysAside", "()V"⟩
abbrev cX6_takesBack : ByteArray := prog_8_method_7_code
def yX6_takesBack : MethodName := ⟨RX6, "takesBack", "(I)I"⟩
abbrev cX6_becomes : ByteArray := prog_8_method_8_code
def yX6_becomes : MethodName := ⟨RX6, "becomes", "(II)I"⟩
abbrev cX6_isCalendar : ByteArray := prog_8_method_9_code
def yX6_isCalendar : MethodName := ⟨RX6, "isCalendar", "(I)Z"⟩
abbrev cX6_areTwo : ByteArray := prog_8_method_10_code
def yX6_areTwo : MethodName := ⟨RX6, "areTwo", "(II)Z"⟩
abbrev cX6_isPilgrim : ByteArray := prog_8_method_11_code
def yX6_isPilgrim : MethodName := ⟨RX6, "isPilgrim", "(I)Z"⟩
abbrev cX6_isKind : ByteArray := prog_8_method_12_code
def yX6_isKind : MethodName := ⟨RX6, "isKind", "(I)Z"⟩
abbrev cX6_its : ByteArray := prog_8_method_13_code
def yX6_its : MethodName := ⟨RX6, "its", "(II)I"⟩
abbrev cX6_spot : ByteArray := prog_8_method_14_code
def yX6_spot : MethodName := ⟨RX6, "spot", "(II)I"⟩
abbrev cX6_isOf : ByteArray := prog_8_method_15_code
def yX6_isOf : MethodName := ⟨RX6, "isOf", "(II)I"⟩
abbrev cX6_adds : ByteArray := prog_8_method_16_code
def yX6_adds : MethodName := ⟨RX6, "adds", "(I)I"⟩
abbrev cX6_calendar : ByteArray := prog_8_method_17_code
def yX6_calendar : MethodName := ⟨RX6, "calendar", "(I)I"⟩
abbrev cX6_of : ByteArray := prog_8_method_18_code
def yX6_of : MethodName := ⟨RX6, "of", "(II)I"⟩
abbrev cX6_isPart : ByteArray := prog_8_method_19_code
def yX6_isPart : MethodName := ⟨RX6, "isPart", "(II)Z"⟩
abbrev cX6_set : ByteArray := prog_8_method_20_code
def yX6_set : MethodName := ⟨RX6, "set", "(III)I"⟩
abbrev cX6_turn : ByteArray := prog_8_method_21_code
def yX6_turn : MethodName := ⟨RX6, "turn", "(II)I"⟩
abbrev cX6_isUnder : ByteArray := prog_8_method_22_code
def yX6_isUnder : MethodName := ⟨RX6, "isUnder", "(II)Z"⟩
abbrev cX6_as : ByteArray := prog_8_method_23_code
def yX6_as : MethodName := ⟨RX6, "as", "(II)I"⟩
abbrev cX6_runs : ByteArray := prog_8_method_24_code
def yX6_runs : MethodName := ⟨RX6, "runs", "(II)I"⟩
abbrev cX6_dateOf : ByteArray := prog_8_method_25_code
def yX6_dateOf : MethodName := ⟨RX6, "dateOf", "(II)I"⟩
abbrev cX6_monthOf : ByteArray := prog_8_method_26_code
def yX6_monthOf : MethodName := ⟨RX6, "monthOf", "(II)I"⟩
abbrev cX6_isHoly : ByteArray := prog_8_method_27_code
def yX6_isHoly : MethodName := ⟨RX6, "isHoly", "(II)Z"⟩
abbrev cX6_date : ByteArray := prog_8_method_28_code
def yX6_date : MethodName := ⟨RX6, "date", "(III)I"⟩
abbrev cX6_law : ByteArray := prog_8_method_29_code
def yX6_law : MethodName := ⟨RX6, "law", "(II)I"⟩
abbrev cX6_comes : ByteArray := prog_8_method_30_code
def yX6_comes : MethodName := ⟨RX6, "comes", "(II)I"⟩
abbrev cX6_isTrust : ByteArray := prog_8_method_31_code
def yX6_isTrust : MethodName := ⟨RX6, "isTrust", "(I)Z"⟩
abbrev cX6_pilgrim : ByteArray := prog_8_method_32_code
def yX6_pilgrim : MethodName := ⟨RX6, "pilgrim", "(II)I"⟩
abbrev cX6_about : ByteArray := prog_8_method_33_code
def yX6_about : MethodName := ⟨RX6, "about", "(II)I"⟩
abbrev cX6_mind : ByteArray := prog_8_method_34_code
def yX6_mind : MethodName := ⟨RX6, "mind", "(III)I"⟩
abbrev cX6_helps : ByteArray := prog_8_method_35_code
def yX6_helps : MethodName := ⟨RX6, "helps", "(IZ)V"⟩
abbrev cX6_drink : ByteArray := prog_8_method_36_code
def yX6_drink : MethodName := ⟨RX6, "drink", "(II)I"⟩
abbrev cX6_bathes : ByteArray := prog_8_method_37_code
def yX6_bathes : MethodName := ⟨RX6, "bathes", "(I)V"⟩
abbrev cX6_bathe : ByteArray := prog_8_method_38_code
def yX6_bathe : MethodName := ⟨RX6, "bathe", "(I)I"⟩
abbrev cX6_day : ByteArray := prog_8_method_39_code
def yX6_day : MethodName := ⟨RX6, "day", "()V"⟩
abbrev cX6_goesOn : ByteArray := prog_8_method_40_code
def yX6_goesOn : MethodName := ⟨RX6, "goesOn", "(I)V"⟩
abbrev cX6_wellOnes : ByteArray := prog_8_method_41_code
def yX6_wellOnes : MethodName := ⟨RX6, "wellOnes", "()I"⟩
abbrev cX6_ones : ByteArray := prog_8_method_42_code
def yX6_ones : MethodName := ⟨RX6, "ones", "(I)I"⟩
abbrev cX6_days : ByteArray := prog_8_method_43_code
def yX6_days : MethodName := ⟨RX6, "days", "(I)I"⟩
abbrev cX6_together : ByteArray := prog_8_method_44_code
def yX6_together : MethodName := ⟨RX6, "together", "(I)I"⟩
abbrev cX6_now : ByteArray := prog_8_method_45_code
def yX6_now : MethodName := ⟨RX6, "now", "(I)I"⟩
abbrev cX6_on : ByteArray := prog_8_method_46_code
def yX6_on : MethodName := ⟨RX6, "on", "(III)I"⟩
abbrev cX6_wellIn : ByteArray := prog_8_method_47_code
def yX6_wellIn : MethodName := ⟨RX6, "wellIn", "(I)I"⟩
abbrev cX6_well : ByteArray := prog_8_method_48_code
def yX6_well : MethodName := ⟨RX6, "well", "(I)I"⟩
abbrev cX6_next : ByteArray := prog_8_method_49_code
def yX6_next : MethodName := ⟨RX6, "next", "(I)I"⟩
abbrev cX6_isAgreed : ByteArray := prog_8_method_50_code
def yX6_isAgreed : MethodName := ⟨RX6, "isAgreed", "(III)Z"⟩
abbrev cX6_agreed : ByteArray := prog_8_method_51_code
def yX6_agreed : MethodName := ⟨RX6, "agreed", "(III)I"⟩
abbrev cX6_agree : ByteArray := prog_8_method_52_code
def yX6_agree : MethodName := ⟨RX6, "agree", "(III)I"⟩
abbrev cX6_row : ByteArray := prog_8_method_53_code
def yX6_row : MethodName := ⟨RX6, "row", "(III)I"⟩
abbrev cX6_holyBy : ByteArray := prog_8_method_54_code
def yX6_holyBy : MethodName := ⟨RX6, "holyBy", "(I)I"⟩
abbrev cX6_meet : ByteArray := prog_8_method_55_code
def yX6_meet : MethodName := ⟨RX6, "meet", "(I)I"⟩
abbrev cX6_isDate : ByteArray := prog_8_method_56_code
def yX6_isDate : MethodName := ⟨RX6, "isDate", "(I)Z"⟩
abbrev cX6_both : ByteArray := prog_8_method_57_code
def yX6_both : MethodName := ⟨RX6, "both", "(IIII)I"⟩
abbrev cX6_trust : ByteArray := prog_8_method_58_code
def yX6_trust : MethodName := ⟨RX6, "trust", "(I)I"⟩
abbrev cX6_truth : ByteArray := prog_8_method_59_code
def yX6_truth : MethodName := ⟨RX6, "truth", "(I)I"⟩
abbrev cX6_cure : ByteArray := prog_8_method_60_code
def yX6_cure : MethodName := ⟨RX6, "cure", "(I)I"⟩
abbrev cX6_mostAgreed : ByteArray := prog_8_method_61_code
def yX6_mostAgreed : MethodName := ⟨RX6, "mostAgreed", "(IIII)I"⟩
abbrev cX6_kind : ByteArray := prog_8_method_62_code
def yX6_kind : MethodName := ⟨RX6, "kind", "(II)I"⟩
abbrev cX6_begin : ByteArray := prog_8_method_63_code
def yX6_begin : MethodName := ⟨RX6, "begin", "(II)I"⟩
abbrev cX6_power : ByteArray := prog_8_method_64_code
def yX6_power : MethodName := ⟨RX6, "power", "(I)I"⟩
abbrev cX6_feed : ByteArray := prog_8_method_65_code
def yX6_feed : MethodName := ⟨RX6, "feed", "(II)I"⟩
abbrev cX6_wipe : ByteArray := prog_8_method_66_code
def yX6_wipe : MethodName := ⟨RX6, "wipe", "()I"⟩
abbrev cX6_byteAt : ByteArray := prog_8_method_67_code
def yX6_byteAt : MethodName := ⟨RX6, "byteAt", "(I)I"⟩
abbrev cX6_isLetter : ByteArray := prog_8_method_68_code
def yX6_isLetter : MethodName := ⟨RX6, "isLetter", "(I)Z"⟩
abbrev cX6_isDigit : ByteArray := prog_8_method_69_code
def yX6_isDigit : MethodName := ⟨RX6, "isDigit", "(I)Z"⟩
abbrev cX6_token : ByteArray := prog_8_method_70_code
def yX6_token : MethodName := ⟨RX6, "token", "()V"⟩
abbrev cX6_must : ByteArray := prog_8_method_71_code
def yX6_must : MethodName := ⟨RX6, "must", "(Z)V"⟩
abbrev cX6_word : ByteArray := prog_8_method_72_code
def yX6_word : MethodName := ⟨RX6, "word", "()J"⟩
abbrev cX6_number : ByteArray := prog_8_method_73_code
def yX6_number : MethodName := ⟨RX6, "number", "(II)V"⟩
abbrev cX6_kindHere : ByteArray := prog_8_method_74_code
def yX6_kindHere : MethodName := ⟨RX6, "kindHere", "()I"⟩
abbrev cX6_partItem : ByteArray := prog_8_method_75_code
def yX6_partItem : MethodName := ⟨RX6, "partItem", "(JIII)V"⟩
abbrev cX6_calendarItem : ByteArray := prog_8_method_76_code
def yX6_calendarItem : MethodName := ⟨RX6, "calendarItem", "(I)V"⟩
abbrev cX6_pilgrimItem : ByteArray := prog_8_method_77_code
def yX6_pilgrimItem : MethodName := ⟨RX6, "pilgrimItem", "()V"⟩
abbrev cX6_item : ByteArray := prog_8_method_78_code
def yX6_item : MethodName := ⟨RX6, "item", "()V"⟩
abbrev cX6_spring : ByteArray := prog_8_method_79_code
def yX6_spring : MethodName := ⟨RX6, "spring", "()I"⟩
abbrev cX6_isOne : ByteArray := prog_8_method_80_code
def yX6_isOne : MethodName := ⟨RX6, "isOne", "(I)Z"⟩
abbrev cX6_sheet : ByteArray := prog_8_method_81_code
def yX6_sheet : MethodName := ⟨RX6, "sheet", "(III)I"⟩
abbrev cX6_narrowed : ByteArray := prog_8_method_82_code
def yX6_narrowed : MethodName := ⟨RX6, "narrowed", "(IJ)J"⟩
abbrev cX6_wrongSheet : ByteArray := prog_8_method_83_code
def yX6_wrongSheet : MethodName := ⟨RX6, "wrongSheet", "(I)I"⟩
abbrev cX6_write : ByteArray := prog_8_method_84_code
def yX6_write : MethodName := ⟨RX6, "write", "(IIJ)J"⟩
abbrev cX6_copy : ByteArray := prog_8_method_85_code
def yX6_copy : MethodName := ⟨RX6, "copy", "(IIIII)I"⟩
abbrev cX6_lays : ByteArray := prog_8_method_86_code
def yX6_lays : MethodName := ⟨RX6, "lays", "(I)I"⟩
abbrev cX6_wrongBook : ByteArray := prog_8_method_87_code
def yX6_wrongBook : MethodName := ⟨RX6, "wrongBook", "(II)I"⟩
abbrev cX6_book : ByteArray := prog_8_method_88_code
def yX6_book : MethodName := ⟨RX6, "book", "(II)I"⟩
abbrev cX6_isBook : ByteArray := prog_8_method_89_code
def yX6_isBook : MethodName := ⟨RX6, "isBook", "(II)Z"⟩
abbrev cX6_read : ByteArray := prog_8_method_90_code
def yX6_read : MethodName := ⟨RX6, "read", "(II)I"⟩
abbrev cX6_image : ByteArray := prog_8_method_91_code
def yX6_image : MethodName := ⟨RX6, "image", "()I"⟩
abbrev cX6_undo : ByteArray := prog_8_method_92_code
def yX6_undo : MethodName := ⟨RX6, "undo", "()I"⟩
abbrev cX6_tear : ByteArray := prog_8_method_93_code
def yX6_tear : MethodName := ⟨RX6, "tear", "()I"⟩
abbrev cX6_count : ByteArray := prog_8_method_94_code
def yX6_count : MethodName := ⟨RX6, "count", "(I)I"⟩
abbrev cX6_status : ByteArray := prog_8_method_95_code
def yX6_status : MethodName := ⟨RX6, "status", "(I)I"⟩
def RJ6 : String := "java/lang/Integer"
def TJ6 : u_T := fun k => match k with
  | _ => ("", "", "", false)
def tyJ6 : Nat → FieldType := fun k => match k with
  | _ => .int
abbrev wsJ60 : List Cond := u_ws RJ6 TJ6 0
theorem nmJ6 : ∀ a, a < 0 → ∀ b, b < 0 → a ≠ b → (TJ6 a).2.1 ≠ (TJ6 b).2.1 := by decide +kernel
theorem tyJ6_ok : ∀ k, k < 0 → parseFieldDescriptor (TJ6 k).2.2.1 = some (tyJ6 k) := by decide +kernel
abbrev cJ6_bitCount_0f7a4 : ByteArray := prog_9_method_49_code
def yJ6_bitCount_0f7a4 : MethodName := ⟨RJ6, "bitCount", "(I)I"⟩
def RJ9 : String := "java/lang/Math"
def TJ9 : u_T := fun k => match k with
  | _ => ("", "", "", false)
def tyJ9 : Nat → FieldType := fun k => match k with
  | _ => .int
abbrev wsJ90 : List Cond := u_ws RJ9 TJ9 0
theorem nmJ9 : ∀ a, a < 0 → ∀ b, b < 0 → a ≠ b → (TJ9 a).2.1 ≠ (TJ9 b).2.1 := by decide +kernel
theorem tyJ9_ok : ∀ k, k < 0 → parseFieldDescriptor (TJ9 k).2.2.1 = some (tyJ9 k) := by decide +kernel
abbrev cJ9_max_7cf53 : ByteArray := prog_10_method_65_code
def yJ9_max_7cf53 : MethodName := ⟨RJ9, "max", "(II)I"⟩
abbrev cJ9_min_7cf53 : ByteArray := prog_10_method_69_code
def yJ9_min_7cf53 : MethodName := ⟨RJ9, "min", "(II)I"⟩
def RJ0 : String := "java/lang/String"
def TJ0 : u_T := fun k => match k with
  | _ => ("", "", "", false)
def tyJ0 : Nat → FieldType := fun k => match k with
  | _ => .int
abbrev wsJ00 : List Cond := u_ws RJ0 TJ0 0
theorem nmJ0 : ∀ a, a < 0 → ∀ b, b < 0 → a ≠ b → (TJ0 a).2.1 ≠ (TJ0 b).2.1 := by decide +kernel
theorem tyJ0_ok : ∀ k, k < 0 → parseFieldDescriptor (TJ0 k).2.2.1 = some (tyJ0 k) := by decide +kernel
abbrev cJ0_length_8abf5 : ByteArray := prog_11_method_54_code
def yJ0_length_8abf5 : MethodName := ⟨RJ0, "length", "()I"⟩
abbrev cJ0_charAt_5068e : ByteArray := prog_11_method_56_code
def yJ0_charAt_5068e : MethodName := ⟨RJ0, "charAt", "(I)C"⟩
abbrev cJ0_coder_7d493 : ByteArray := prog_11_method_152_code
def yJ0_coder_7d493 : MethodName := ⟨RJ0, "coder", "()B"⟩
abbrev cJ0_isLatin1_aae02 : ByteArray := prog_11_method_154_code
def yJ0_isLatin1_aae02 : MethodName := ⟨RJ0, "isLatin1", "()Z"⟩
abbrev cJ0_checkIndex_df160 : ByteArray := prog_11_method_155_code
def yJ0_checkIndex_df160 : MethodName := ⟨RJ0, "checkIndex", "(II)V"⟩
def RJ1 : String := "java/lang/StringLatin1"
def TJ1 : u_T := fun k => match k with
  | _ => ("", "", "", false)
def tyJ1 : Nat → FieldType := fun k => match k with
  | _ => .int
abbrev wsJ10 : List Cond := u_ws RJ1 TJ1 0
theorem nmJ1 : ∀ a, a < 0 → ∀ b, b < 0 → a ≠ b → (TJ1 a).2.1 ≠ (TJ1 b).2.1 := by decide +kernel
theorem tyJ1_ok : ∀ k, k < 0 → parseFieldDescriptor (TJ1 k).2.2.1 = some (tyJ1 k) := by decide +kernel
abbrev cJ1_charAt_3b067 : ByteArray := prog_12_method_2_code
def yJ1_charAt_3b067 : MethodName := ⟨RJ1, "charAt", "([BI)C"⟩
def RJ2 : String := "java/lang/StringUTF16"
def TJ2 : u_T := fun k => match k with
  | _ => ("", "", "", false)
def tyJ2 : Nat → FieldType := fun k => match k with
  | _ => .int
abbrev wsJ20 : List Cond := u_ws RJ2 TJ2 0
theorem nmJ2 : ∀ a, a < 0 → ∀ b, b < 0 → a ≠ b → (TJ2 a).2.1 ≠ (TJ2 b).2.1 := by decide +kernel
theorem tyJ2_ok : ∀ k, k < 0 → parseFieldDescriptor (TJ2 k).2.2.1 = some (tyJ2 k) := by decide +kernel
abbrev cJ2_getChar_3b067 : ByteArray := prog_13_method_5_code
def yJ2_getChar_3b067 : MethodName := ⟨RJ2, "getChar", "([BI)C"⟩
abbrev cJ2_length_9d52b : ByteArray := prog_13_method_6_code
def yJ2_length_9d52b : MethodName := ⟨RJ2, "length", "([B)I"⟩
abbrev cJ2_charAt_3b067 : ByteArray := prog_13_method_83_code
def yJ2_charAt_3b067 : MethodName := ⟨RJ2, "charAt", "([BI)C"⟩
abbrev cJ2_checkIndex_2214a : ByteArray := prog_13_method_91_code
def yJ2_checkIndex_2214a : MethodName := ⟨RJ2, "checkIndex", "(I[B)V"⟩
def RJ10 : String := "java/lang/System"
def TJ10 : u_T := fun k => match k with
  | _ => ("", "", "", false)
def tyJ10 : Nat → FieldType := fun k => match k with
  | _ => .int
abbrev wsJ100 : List Cond := u_ws RJ10 TJ10 0
theorem nmJ10 : ∀ a, a < 0 → ∀ b, b < 0 → a ≠ b → (TJ10 a).2.1 ≠ (TJ10 b).2.1 := by decide +kernel
theorem tyJ10_ok : ∀ k, k < 0 → parseFieldDescriptor (TJ10 k).2.2.1 = some (tyJ10 k) := by decide +kernel
def RJ3 : String := "jdk/internal/util/Preconditions"
def TJ3 : u_T := fun k => match k with
  | _ => ("", "", "", false)
def tyJ3 : Nat → FieldType := fun k => match k with
  | _ => .int
abbrev wsJ30 : List Cond := u_ws RJ3 TJ3 0
theorem nmJ3 : ∀ a, a < 0 → ∀ b, b < 0 → a ≠ b → (TJ3 a).2.1 ≠ (TJ3 b).2.1 := by decide +kernel
theorem tyJ3_ok : ∀ k, k < 0 → parseFieldDescriptor (TJ3 k).2.2.1 = some (tyJ3 k) := by decide +kernel
abbrev cJ3_checkIndex_8e157 : ByteArray := prog_15_method_11_code
def yJ3_checkIndex_8e157 : MethodName := ⟨RJ3, "checkIndex", "(IILjava/util/function/BiFunction;)I"⟩
def RL : String := "EvenSpringLaw"
abbrev cL_law : ByteArray := code
def yL_law : MethodName := ⟨RL, "law", "([I)Z"⟩
abbrev vwCl : List vw_C := [(RX0, TX0, 1), (RX1, TX1, 3), (RX2, TX2, 3), (RX3, TX3, 9), (RX4, TX4, 7), (RX5, TX5, 9), (RX6, TX6, 16)]
