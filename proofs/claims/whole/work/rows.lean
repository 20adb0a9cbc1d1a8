section
/-! printed: the tables' words, names, fields, words -/
/-- a private method of a class that the tables say can be made, by its rows of tables_1 -/
def lw_okq (q : MethodName × Nat) : Prop := (q.1.cls ≠ "java/lang/invoke/MethodHandle" ∧ q.1.cls ≠ "java/lang/invoke/VarHandle") ∧ Cond.instantiable q.1.cls q.2 ∈ tables_1 ∧ Cond.privateMethod q.1 ∈ tables_1 ∧ Cond.instanceMethod q.1 ∈ tables_1
theorem lw_p0 : lw_okq (⟨"EvenSpring", "found", "(I)I"⟩, 9) := ⟨⟨by decide +kernel, by decide +kernel⟩, List.mem_of_getElem? (i := 16) (by decide +kernel), List.mem_of_getElem? (i := 204) (by decide +kernel), List.mem_of_getElem? (i := 205) (by decide +kernel)⟩
theorem lw_p1 : lw_okq (⟨"EvenSpring$Calendar", "runsAsNew", "(I)I"⟩, 1) := ⟨⟨by decide +kernel, by decide +kernel⟩, List.mem_of_getElem? (i := 33) (by decide +kernel), List.mem_of_getElem? (i := 273) (by decide +kernel), List.mem_of_getElem? (i := 274) (by decide +kernel)⟩
theorem lw_p2 : lw_okq (⟨"EvenSpring$Calendar", "length", "()I"⟩, 1) := ⟨⟨by decide +kernel, by decide +kernel⟩, List.mem_of_getElem? (i := 33) (by decide +kernel), List.mem_of_getElem? (i := 277) (by decide +kernel), List.mem_of_getElem? (i := 278) (by decide +kernel)⟩
theorem lw_p3 : lw_okq (⟨"EvenSpring$Spring", "drawJug", "(Z)V"⟩, 9) := ⟨⟨by decide +kernel, by decide +kernel⟩, List.mem_of_getElem? (i := 24) (by decide +kernel), List.mem_of_getElem? (i := 380) (by decide +kernel), List.mem_of_getElem? (i := 381) (by decide +kernel)⟩
theorem lw_p4 : lw_okq (⟨"EvenSpring", "lookAhead", "(I)V"⟩, 9) := ⟨⟨by decide +kernel, by decide +kernel⟩, List.mem_of_getElem? (i := 16) (by decide +kernel), List.mem_of_getElem? (i := 407) (by decide +kernel), List.mem_of_getElem? (i := 408) (by decide +kernel)⟩
theorem lw_p5 : lw_okq (⟨"EvenSpring", "tryDays", "(LEvenSpring$Pilgrim;III)V"⟩, 9) := ⟨⟨by decide +kernel, by decide +kernel⟩, List.mem_of_getElem? (i := 16) (by decide +kernel), List.mem_of_getElem? (i := 412) (by decide +kernel), List.mem_of_getElem? (i := 413) (by decide +kernel)⟩
theorem lw_p6 : lw_okq (⟨"EvenSpring", "daysToWell", "(LEvenSpring$Pilgrim;I)I"⟩, 9) := ⟨⟨by decide +kernel, by decide +kernel⟩, List.mem_of_getElem? (i := 16) (by decide +kernel), List.mem_of_getElem? (i := 425) (by decide +kernel), List.mem_of_getElem? (i := 426) (by decide +kernel)⟩
theorem lw_p7 : lw_okq (⟨"EvenSpring", "agreeAhead", "(III)Z"⟩, 9) := ⟨⟨by decide +kernel, by decide +kernel⟩, List.mem_of_getElem? (i := 16) (by decide +kernel), List.mem_of_getElem? (i := 442) (by decide +kernel), List.mem_of_getElem? (i := 443) (by decide +kernel)⟩
theorem lw_p8 : lw_okq (⟨"EvenSpring", "illOfAllAhead", "(II)I"⟩, 9) := ⟨⟨by decide +kernel, by decide +kernel⟩, List.mem_of_getElem? (i := 16) (by decide +kernel), List.mem_of_getElem? (i := 468) (by decide +kernel), List.mem_of_getElem? (i := 469) (by decide +kernel)⟩
theorem lw_p9 : lw_okq (⟨"EvenSpring", "bestValue", "(IIII)I"⟩, 9) := ⟨⟨by decide +kernel, by decide +kernel⟩, List.mem_of_getElem? (i := 16) (by decide +kernel), List.mem_of_getElem? (i := 480) (by decide +kernel), List.mem_of_getElem? (i := 481) (by decide +kernel)⟩
theorem lw_p10 : lw_okq (⟨"EvenSpring", "agreementsOfTried", "(I)I"⟩, 9) := ⟨⟨by decide +kernel, by decide +kernel⟩, List.mem_of_getElem? (i := 16) (by decide +kernel), List.mem_of_getElem? (i := 494) (by decide +kernel), List.mem_of_getElem? (i := 495) (by decide +kernel)⟩
theorem lw_p11 : lw_okq (⟨"EvenSpring", "wellAhead", "(II)I"⟩, 9) := ⟨⟨by decide +kernel, by decide +kernel⟩, List.mem_of_getElem? (i := 16) (by decide +kernel), List.mem_of_getElem? (i := 506) (by decide +kernel), List.mem_of_getElem? (i := 507) (by decide +kernel)⟩
theorem lw_p12 : lw_okq (⟨"EvenSpring$SpringText", "readToken", "()V"⟩, 7) := ⟨⟨by decide +kernel, by decide +kernel⟩, List.mem_of_getElem? (i := 103) (by decide +kernel), List.mem_of_getElem? (i := 536) (by decide +kernel), List.mem_of_getElem? (i := 537) (by decide +kernel)⟩
theorem lw_p13 : lw_okq (⟨"EvenSpring$SpringText", "byteAt", "(I)I"⟩, 7) := ⟨⟨by decide +kernel, by decide +kernel⟩, List.mem_of_getElem? (i := 103) (by decide +kernel), List.mem_of_getElem? (i := 540) (by decide +kernel), List.mem_of_getElem? (i := 541) (by decide +kernel)⟩
theorem lw_p14 : lw_okq (⟨"EvenSpring$SpringText", "tellItem", "()Z"⟩, 7) := ⟨⟨by decide +kernel, by decide +kernel⟩, List.mem_of_getElem? (i := 103) (by decide +kernel), List.mem_of_getElem? (i := 551) (by decide +kernel), List.mem_of_getElem? (i := 552) (by decide +kernel)⟩
theorem lw_p15 : lw_okq (⟨"EvenSpring$SpringText", "isWord", "(Ljava/lang/String;)Z"⟩, 7) := ⟨⟨by decide +kernel, by decide +kernel⟩, List.mem_of_getElem? (i := 103) (by decide +kernel), List.mem_of_getElem? (i := 556) (by decide +kernel), List.mem_of_getElem? (i := 557) (by decide +kernel)⟩
def lw_privs_1 : List (MethodName × Nat) := [(⟨"EvenSpring", "found", "(I)I"⟩, 9), (⟨"EvenSpring$Calendar", "runsAsNew", "(I)I"⟩, 1), (⟨"EvenSpring$Calendar", "length", "()I"⟩, 1), (⟨"EvenSpring$Spring", "drawJug", "(Z)V"⟩, 9), (⟨"EvenSpring", "lookAhead", "(I)V"⟩, 9), (⟨"EvenSpring", "tryDays", "(LEvenSpring$Pilgrim;III)V"⟩, 9), (⟨"EvenSpring", "daysToWell", "(LEvenSpring$Pilgrim;I)I"⟩, 9), (⟨"EvenSpring", "agreeAhead", "(III)Z"⟩, 9), (⟨"EvenSpring", "illOfAllAhead", "(II)I"⟩, 9), (⟨"EvenSpring", "bestValue", "(IIII)I"⟩, 9), (⟨"EvenSpring", "agreementsOfTried", "(I)I"⟩, 9), (⟨"EvenSpring", "wellAhead", "(II)I"⟩, 9), (⟨"EvenSpring$SpringText", "readToken", "()V"⟩, 7), (⟨"EvenSpring$SpringText", "byteAt", "(I)I"⟩, 7), (⟨"EvenSpring$SpringText", "tellItem", "()Z"⟩, 7), (⟨"EvenSpring$SpringText", "isWord", "(Ljava/lang/String;)Z"⟩, 7)]
theorem lw_r1 : ∀ q ∈ lw_privs_1, lw_okq q := List.forall_mem_cons.mpr ⟨lw_p0, List.forall_mem_cons.mpr ⟨lw_p1, List.forall_mem_cons.mpr ⟨lw_p2, List.forall_mem_cons.mpr ⟨lw_p3, List.forall_mem_cons.mpr ⟨lw_p4, List.forall_mem_cons.mpr ⟨lw_p5, List.forall_mem_cons.mpr ⟨lw_p6, List.forall_mem_cons.mpr ⟨lw_p7, List.forall_mem_cons.mpr ⟨lw_p8, List.forall_mem_cons.mpr ⟨lw_p9, List.forall_mem_cons.mpr ⟨lw_p10, List.forall_mem_cons.mpr ⟨lw_p11, List.forall_mem_cons.mpr ⟨lw_p12, List.forall_mem_cons.mpr ⟨lw_p13, List.forall_mem_cons.mpr ⟨lw_p14, List.forall_mem_cons.mpr ⟨lw_p15, fun _ h => absurd h List.not_mem_nil⟩⟩⟩⟩⟩⟩⟩⟩⟩⟩⟩⟩⟩⟩⟩⟩
theorem lw_p16 : lw_okq (⟨"EvenSpring$SpringText", "tellPilgrim", "()Z"⟩, 7) := ⟨⟨by decide +kernel, by decide +kernel⟩, List.mem_of_getElem? (i := 103) (by decide +kernel), List.mem_of_getElem? (i := 608) (by decide +kernel), List.mem_of_getElem? (i := 609) (by decide +kernel)⟩
theorem lw_p17 : lw_okq (⟨"EvenSpring$SpringText", "isNumber", "(II)Z"⟩, 7) := ⟨⟨by decide +kernel, by decide +kernel⟩, List.mem_of_getElem? (i := 103) (by decide +kernel), List.mem_of_getElem? (i := 612) (by decide +kernel), List.mem_of_getElem? (i := 613) (by decide +kernel)⟩
theorem lw_p18 : lw_okq (⟨"EvenSpring$SpringText", "tellTruth", "()Z"⟩, 7) := ⟨⟨by decide +kernel, by decide +kernel⟩, List.mem_of_getElem? (i := 103) (by decide +kernel), List.mem_of_getElem? (i := 620) (by decide +kernel), List.mem_of_getElem? (i := 621) (by decide +kernel)⟩
theorem lw_p19 : lw_okq (⟨"EvenSpring$SpringText", "tellPower", "()Z"⟩, 7) := ⟨⟨by decide +kernel, by decide +kernel⟩, List.mem_of_getElem? (i := 103) (by decide +kernel), List.mem_of_getElem? (i := 625) (by decide +kernel), List.mem_of_getElem? (i := 626) (by decide +kernel)⟩
theorem lw_p20 : lw_okq (⟨"EvenSpring$SpringText", "tellCalendar", "()Z"⟩, 7) := ⟨⟨by decide +kernel, by decide +kernel⟩, List.mem_of_getElem? (i := 103) (by decide +kernel), List.mem_of_getElem? (i := 629) (by decide +kernel), List.mem_of_getElem? (i := 630) (by decide +kernel)⟩
theorem lw_p21 : lw_okq (⟨"EvenSpring$SpringText", "kindNamed", "()I"⟩, 7) := ⟨⟨by decide +kernel, by decide +kernel⟩, List.mem_of_getElem? (i := 103) (by decide +kernel), List.mem_of_getElem? (i := 633) (by decide +kernel), List.mem_of_getElem? (i := 634) (by decide +kernel)⟩
theorem lw_p22 : lw_okq (⟨"EvenSpring$SpringText", "tellField", "(Ljava/lang/String;I)Z"⟩, 7) := ⟨⟨by decide +kernel, by decide +kernel⟩, List.mem_of_getElem? (i := 103) (by decide +kernel), List.mem_of_getElem? (i := 648) (by decide +kernel), List.mem_of_getElem? (i := 649) (by decide +kernel)⟩
theorem lw_p23 : lw_okq (⟨"EvenSpring", "sheetAt", "(I)LEvenSpring$Sheet;"⟩, 9) := ⟨⟨by decide +kernel, by decide +kernel⟩, List.mem_of_getElem? (i := 16) (by decide +kernel), List.mem_of_getElem? (i := 663) (by decide +kernel), List.mem_of_getElem? (i := 664) (by decide +kernel)⟩
theorem lw_p24 : lw_okq (⟨"EvenSpring$Sheet", "lowest", "(J)J"⟩, 3) := ⟨⟨by decide +kernel, by decide +kernel⟩, List.mem_of_getElem? (i := 141) (by decide +kernel), List.mem_of_getElem? (i := 694) (by decide +kernel), List.mem_of_getElem? (i := 695) (by decide +kernel)⟩
theorem lw_p25 : lw_okq (⟨"EvenSpring", "makesJustSo", "(LEvenSpring$Sheet;LEvenSpring$Pilgrim;II)Z"⟩, 9) := ⟨⟨by decide +kernel, by decide +kernel⟩, List.mem_of_getElem? (i := 16) (by decide +kernel), List.mem_of_getElem? (i := 720) (by decide +kernel), List.mem_of_getElem? (i := 721) (by decide +kernel)⟩
theorem lw_p26 : lw_okq (⟨"EvenSpringModel", "finds", "(I)I"⟩, 16) := ⟨⟨by decide +kernel, by decide +kernel⟩, List.mem_of_getElem? (i := 748) (by decide +kernel), List.mem_of_getElem? (i := 815) (by decide +kernel), List.mem_of_getElem? (i := 816) (by decide +kernel)⟩
theorem lw_p27 : lw_okq (⟨"EvenSpringModel", "adds", "(I)I"⟩, 16) := ⟨⟨by decide +kernel, by decide +kernel⟩, List.mem_of_getElem? (i := 748) (by decide +kernel), List.mem_of_getElem? (i := 820) (by decide +kernel), List.mem_of_getElem? (i := 821) (by decide +kernel)⟩
theorem lw_p28 : lw_okq (⟨"EvenSpringModel", "isCalendar", "(I)Z"⟩, 16) := ⟨⟨by decide +kernel, by decide +kernel⟩, List.mem_of_getElem? (i := 748) (by decide +kernel), List.mem_of_getElem? (i := 828) (by decide +kernel), List.mem_of_getElem? (i := 829) (by decide +kernel)⟩
theorem lw_p29 : lw_okq (⟨"EvenSpringModel", "its", "(II)I"⟩, 16) := ⟨⟨by decide +kernel, by decide +kernel⟩, List.mem_of_getElem? (i := 748) (by decide +kernel), List.mem_of_getElem? (i := 833) (by decide +kernel), List.mem_of_getElem? (i := 834) (by decide +kernel)⟩
theorem lw_p30 : lw_okq (⟨"EvenSpringModel", "becomes", "(II)I"⟩, 16) := ⟨⟨by decide +kernel, by decide +kernel⟩, List.mem_of_getElem? (i := 748) (by decide +kernel), List.mem_of_getElem? (i := 847) (by decide +kernel), List.mem_of_getElem? (i := 848) (by decide +kernel)⟩
theorem lw_p31 : lw_okq (⟨"EvenSpringModel", "dateOf", "(II)I"⟩, 16) := ⟨⟨by decide +kernel, by decide +kernel⟩, List.mem_of_getElem? (i := 748) (by decide +kernel), List.mem_of_getElem? (i := 869) (by decide +kernel), List.mem_of_getElem? (i := 870) (by decide +kernel)⟩
def lw_privs_2 : List (MethodName × Nat) := [(⟨"EvenSpring$SpringText", "tellPilgrim", "()Z"⟩, 7), (⟨"EvenSpring$SpringText", "isNumber", "(II)Z"⟩, 7), (⟨"EvenSpring$SpringText", "tellTruth", "()Z"⟩, 7), (⟨"EvenSpring$SpringText", "tellPower", "()Z"⟩, 7), (⟨"EvenSpring$SpringText", "tellCalendar", "()Z"⟩, 7), (⟨"EvenSpring$SpringText", "kindNamed", "()I"⟩, 7), (⟨"EvenSpring$SpringText", "tellField", "(Ljava/lang/String;I)Z"⟩, 7), (⟨"EvenSpring", "sheetAt", "(I)LEvenSpring$Sheet;"⟩, 9), (⟨"EvenSpring$Sheet", "lowest", "(J)J"⟩, 3), (⟨"EvenSpring", "makesJustSo", "(LEvenSpring$Sheet;LEvenSpring$Pilgrim;II)Z"⟩, 9), (⟨"EvenSpringModel", "finds", "(I)I"⟩, 16), (⟨"EvenSpringModel", "adds", "(I)I"⟩, 16), (⟨"EvenSpringModel", "isCalendar", "(I)Z"⟩, 16), (⟨"EvenSpringModel", "its", "(II)I"⟩, 16), (⟨"EvenSpringModel", "becomes", "(II)I"⟩, 16), (⟨"EvenSpringModel", "dateOf", "(II)I"⟩, 16)]
theorem lw_r2 : ∀ q ∈ lw_privs_2, lw_okq q := List.forall_mem_cons.mpr ⟨lw_p16, List.forall_mem_cons.mpr ⟨lw_p17, List.forall_mem_cons.mpr ⟨lw_p18, List.forall_mem_cons.mpr ⟨lw_p19, List.forall_mem_cons.mpr ⟨lw_p20, List.forall_mem_cons.mpr ⟨lw_p21, List.forall_mem_cons.mpr ⟨lw_p22, List.forall_mem_cons.mpr ⟨lw_p23, List.forall_mem_cons.mpr ⟨lw_p24, List.forall_mem_cons.mpr ⟨lw_p25, List.forall_mem_cons.mpr ⟨lw_p26, List.forall_mem_cons.mpr ⟨lw_p27, List.forall_mem_cons.mpr ⟨lw_p28, List.forall_mem_cons.mpr ⟨lw_p29, List.forall_mem_cons.mpr ⟨lw_p30, List.forall_mem_cons.mpr ⟨lw_p31, fun _ h => absurd h List.not_mem_nil⟩⟩⟩⟩⟩⟩⟩⟩⟩⟩⟩⟩⟩⟩⟩⟩
theorem lw_p32 : lw_okq (⟨"EvenSpringModel", "runs", "(II)I"⟩, 16) := ⟨⟨by decide +kernel, by decide +kernel⟩, List.mem_of_getElem? (i := 748) (by decide +kernel), List.mem_of_getElem? (i := 873) (by decide +kernel), List.mem_of_getElem? (i := 874) (by decide +kernel)⟩
theorem lw_p33 : lw_okq (⟨"EvenSpringModel", "monthOf", "(II)I"⟩, 16) := ⟨⟨by decide +kernel, by decide +kernel⟩, List.mem_of_getElem? (i := 748) (by decide +kernel), List.mem_of_getElem? (i := 877) (by decide +kernel), List.mem_of_getElem? (i := 878) (by decide +kernel)⟩
theorem lw_p34 : lw_okq (⟨"EvenSpringModel", "isHoly", "(II)Z"⟩, 16) := ⟨⟨by decide +kernel, by decide +kernel⟩, List.mem_of_getElem? (i := 748) (by decide +kernel), List.mem_of_getElem? (i := 881) (by decide +kernel), List.mem_of_getElem? (i := 882) (by decide +kernel)⟩
theorem lw_p35 : lw_okq (⟨"EvenSpringModel", "isTrust", "(I)Z"⟩, 16) := ⟨⟨by decide +kernel, by decide +kernel⟩, List.mem_of_getElem? (i := 748) (by decide +kernel), List.mem_of_getElem? (i := 894) (by decide +kernel), List.mem_of_getElem? (i := 895) (by decide +kernel)⟩
theorem lw_p36 : lw_okq (⟨"EvenSpringModel", "comes", "(II)I"⟩, 16) := ⟨⟨by decide +kernel, by decide +kernel⟩, List.mem_of_getElem? (i := 748) (by decide +kernel), List.mem_of_getElem? (i := 898) (by decide +kernel), List.mem_of_getElem? (i := 899) (by decide +kernel)⟩
theorem lw_p37 : lw_okq (⟨"EvenSpringModel", "isPilgrim", "(I)Z"⟩, 16) := ⟨⟨by decide +kernel, by decide +kernel⟩, List.mem_of_getElem? (i := 748) (by decide +kernel), List.mem_of_getElem? (i := 909) (by decide +kernel), List.mem_of_getElem? (i := 910) (by decide +kernel)⟩
theorem lw_p38 : lw_okq (⟨"EvenSpringModel", "isOf", "(II)I"⟩, 16) := ⟨⟨by decide +kernel, by decide +kernel⟩, List.mem_of_getElem? (i := 748) (by decide +kernel), List.mem_of_getElem? (i := 914) (by decide +kernel), List.mem_of_getElem? (i := 915) (by decide +kernel)⟩
theorem lw_p39 : lw_okq (⟨"EvenSpringModel", "helps", "(IZ)V"⟩, 16) := ⟨⟨by decide +kernel, by decide +kernel⟩, List.mem_of_getElem? (i := 748) (by decide +kernel), List.mem_of_getElem? (i := 927) (by decide +kernel), List.mem_of_getElem? (i := 928) (by decide +kernel)⟩
theorem lw_p40 : lw_okq (⟨"EvenSpringModel", "bathes", "(I)V"⟩, 16) := ⟨⟨by decide +kernel, by decide +kernel⟩, List.mem_of_getElem? (i := 748) (by decide +kernel), List.mem_of_getElem? (i := 935) (by decide +kernel), List.mem_of_getElem? (i := 936) (by decide +kernel)⟩
theorem lw_p41 : lw_okq (⟨"EvenSpringModel", "goesOn", "(I)V"⟩, 16) := ⟨⟨by decide +kernel, by decide +kernel⟩, List.mem_of_getElem? (i := 748) (by decide +kernel), List.mem_of_getElem? (i := 945) (by decide +kernel), List.mem_of_getElem? (i := 946) (by decide +kernel)⟩
theorem lw_p42 : lw_okq (⟨"EvenSpringModel", "day", "()V"⟩, 16) := ⟨⟨by decide +kernel, by decide +kernel⟩, List.mem_of_getElem? (i := 748) (by decide +kernel), List.mem_of_getElem? (i := 949) (by decide +kernel), List.mem_of_getElem? (i := 950) (by decide +kernel)⟩
theorem lw_p43 : lw_okq (⟨"EvenSpringModel", "wellOnes", "()I"⟩, 16) := ⟨⟨by decide +kernel, by decide +kernel⟩, List.mem_of_getElem? (i := 748) (by decide +kernel), List.mem_of_getElem? (i := 953) (by decide +kernel), List.mem_of_getElem? (i := 954) (by decide +kernel)⟩
theorem lw_p44 : lw_okq (⟨"EvenSpringModel", "together", "(I)I"⟩, 16) := ⟨⟨by decide +kernel, by decide +kernel⟩, List.mem_of_getElem? (i := 748) (by decide +kernel), List.mem_of_getElem? (i := 964) (by decide +kernel), List.mem_of_getElem? (i := 965) (by decide +kernel)⟩
theorem lw_p45 : lw_okq (⟨"EvenSpringModel", "laysAside", "()V"⟩, 16) := ⟨⟨by decide +kernel, by decide +kernel⟩, List.mem_of_getElem? (i := 748) (by decide +kernel), List.mem_of_getElem? (i := 972) (by decide +kernel), List.mem_of_getElem? (i := 973) (by decide +kernel)⟩
theorem lw_p46 : lw_okq (⟨"EvenSpringModel", "takesBack", "(I)I"⟩, 16) := ⟨⟨by decide +kernel, by decide +kernel⟩, List.mem_of_getElem? (i := 748) (by decide +kernel), List.mem_of_getElem? (i := 976) (by decide +kernel), List.mem_of_getElem? (i := 977) (by decide +kernel)⟩
theorem lw_p47 : lw_okq (⟨"EvenSpringModel", "wellIn", "(I)I"⟩, 16) := ⟨⟨by decide +kernel, by decide +kernel⟩, List.mem_of_getElem? (i := 748) (by decide +kernel), List.mem_of_getElem? (i := 984) (by decide +kernel), List.mem_of_getElem? (i := 985) (by decide +kernel)⟩
def lw_privs_3 : List (MethodName × Nat) := [(⟨"EvenSpringModel", "runs", "(II)I"⟩, 16), (⟨"EvenSpringModel", "monthOf", "(II)I"⟩, 16), (⟨"EvenSpringModel", "isHoly", "(II)Z"⟩, 16), (⟨"EvenSpringModel", "isTrust", "(I)Z"⟩, 16), (⟨"EvenSpringModel", "comes", "(II)I"⟩, 16), (⟨"EvenSpringModel", "isPilgrim", "(I)Z"⟩, 16), (⟨"EvenSpringModel", "isOf", "(II)I"⟩, 16), (⟨"EvenSpringModel", "helps", "(IZ)V"⟩, 16), (⟨"EvenSpringModel", "bathes", "(I)V"⟩, 16), (⟨"EvenSpringModel", "goesOn", "(I)V"⟩, 16), (⟨"EvenSpringModel", "day", "()V"⟩, 16), (⟨"EvenSpringModel", "wellOnes", "()I"⟩, 16), (⟨"EvenSpringModel", "together", "(I)I"⟩, 16), (⟨"EvenSpringModel", "laysAside", "()V"⟩, 16), (⟨"EvenSpringModel", "takesBack", "(I)I"⟩, 16), (⟨"EvenSpringModel", "wellIn", "(I)I"⟩, 16)]
theorem lw_r3 : ∀ q ∈ lw_privs_3, lw_okq q := List.forall_mem_cons.mpr ⟨lw_p32, List.forall_mem_cons.mpr ⟨lw_p33, List.forall_mem_cons.mpr ⟨lw_p34, List.forall_mem_cons.mpr ⟨lw_p35, List.forall_mem_cons.mpr ⟨lw_p36, List.forall_mem_cons.mpr ⟨lw_p37, List.forall_mem_cons.mpr ⟨lw_p38, List.forall_mem_cons.mpr ⟨lw_p39, List.forall_mem_cons.mpr ⟨lw_p40, List.forall_mem_cons.mpr ⟨lw_p41, List.forall_mem_cons.mpr ⟨lw_p42, List.forall_mem_cons.mpr ⟨lw_p43, List.forall_mem_cons.mpr ⟨lw_p44, List.forall_mem_cons.mpr ⟨lw_p45, List.forall_mem_cons.mpr ⟨lw_p46, List.forall_mem_cons.mpr ⟨lw_p47, fun _ h => absurd h List.not_mem_nil⟩⟩⟩⟩⟩⟩⟩⟩⟩⟩⟩⟩⟩⟩⟩⟩
theorem lw_p48 : lw_okq (⟨"EvenSpringModel", "areTwo", "(II)Z"⟩, 16) := ⟨⟨by decide +kernel, by decide +kernel⟩, List.mem_of_getElem? (i := 748) (by decide +kernel), List.mem_of_getElem? (i := 997) (by decide +kernel), List.mem_of_getElem? (i := 998) (by decide +kernel)⟩
theorem lw_p49 : lw_okq (⟨"EvenSpringModel", "agreed", "(III)I"⟩, 16) := ⟨⟨by decide +kernel, by decide +kernel⟩, List.mem_of_getElem? (i := 748) (by decide +kernel), List.mem_of_getElem? (i := 1001) (by decide +kernel), List.mem_of_getElem? (i := 1002) (by decide +kernel)⟩
theorem lw_p50 : lw_okq (⟨"EvenSpringModel", "isAgreed", "(III)Z"⟩, 16) := ⟨⟨by decide +kernel, by decide +kernel⟩, List.mem_of_getElem? (i := 748) (by decide +kernel), List.mem_of_getElem? (i := 1005) (by decide +kernel), List.mem_of_getElem? (i := 1006) (by decide +kernel)⟩
theorem lw_p51 : lw_okq (⟨"EvenSpringModel", "holyBy", "(I)I"⟩, 16) := ⟨⟨by decide +kernel, by decide +kernel⟩, List.mem_of_getElem? (i := 748) (by decide +kernel), List.mem_of_getElem? (i := 1017) (by decide +kernel), List.mem_of_getElem? (i := 1018) (by decide +kernel)⟩
theorem lw_p52 : lw_okq (⟨"EvenSpringModel", "mostAgreed", "(IIII)I"⟩, 16) := ⟨⟨by decide +kernel, by decide +kernel⟩, List.mem_of_getElem? (i := 748) (by decide +kernel), List.mem_of_getElem? (i := 1045) (by decide +kernel), List.mem_of_getElem? (i := 1046) (by decide +kernel)⟩
theorem lw_p53 : lw_okq (⟨"EvenSpringModel", "saves", "()V"⟩, 16) := ⟨⟨by decide +kernel, by decide +kernel⟩, List.mem_of_getElem? (i := 748) (by decide +kernel), List.mem_of_getElem? (i := 1069) (by decide +kernel), List.mem_of_getElem? (i := 1070) (by decide +kernel)⟩
theorem lw_p54 : lw_okq (⟨"EvenSpringModel", "token", "()V"⟩, 16) := ⟨⟨by decide +kernel, by decide +kernel⟩, List.mem_of_getElem? (i := 748) (by decide +kernel), List.mem_of_getElem? (i := 1073) (by decide +kernel), List.mem_of_getElem? (i := 1074) (by decide +kernel)⟩
theorem lw_p55 : lw_okq (⟨"EvenSpringModel", "byteAt", "(I)I"⟩, 16) := ⟨⟨by decide +kernel, by decide +kernel⟩, List.mem_of_getElem? (i := 748) (by decide +kernel), List.mem_of_getElem? (i := 1077) (by decide +kernel), List.mem_of_getElem? (i := 1078) (by decide +kernel)⟩
theorem lw_p56 : lw_okq (⟨"EvenSpringModel", "item", "()V"⟩, 16) := ⟨⟨by decide +kernel, by decide +kernel⟩, List.mem_of_getElem? (i := 748) (by decide +kernel), List.mem_of_getElem? (i := 1091) (by decide +kernel), List.mem_of_getElem? (i := 1092) (by decide +kernel)⟩
theorem lw_p57 : lw_okq (⟨"EvenSpringModel", "kindHere", "()I"⟩, 16) := ⟨⟨by decide +kernel, by decide +kernel⟩, List.mem_of_getElem? (i := 748) (by decide +kernel), List.mem_of_getElem? (i := 1095) (by decide +kernel), List.mem_of_getElem? (i := 1096) (by decide +kernel)⟩
theorem lw_p58 : lw_okq (⟨"EvenSpringModel", "word", "()J"⟩, 16) := ⟨⟨by decide +kernel, by decide +kernel⟩, List.mem_of_getElem? (i := 748) (by decide +kernel), List.mem_of_getElem? (i := 1099) (by decide +kernel), List.mem_of_getElem? (i := 1100) (by decide +kernel)⟩
theorem lw_p59 : lw_okq (⟨"EvenSpringModel", "calendarItem", "(I)V"⟩, 16) := ⟨⟨by decide +kernel, by decide +kernel⟩, List.mem_of_getElem? (i := 748) (by decide +kernel), List.mem_of_getElem? (i := 1111) (by decide +kernel), List.mem_of_getElem? (i := 1112) (by decide +kernel)⟩
theorem lw_p60 : lw_okq (⟨"EvenSpringModel", "must", "(Z)V"⟩, 16) := ⟨⟨by decide +kernel, by decide +kernel⟩, List.mem_of_getElem? (i := 748) (by decide +kernel), List.mem_of_getElem? (i := 1115) (by decide +kernel), List.mem_of_getElem? (i := 1116) (by decide +kernel)⟩
theorem lw_p61 : lw_okq (⟨"EvenSpringModel", "partItem", "(JIII)V"⟩, 16) := ⟨⟨by decide +kernel, by decide +kernel⟩, List.mem_of_getElem? (i := 748) (by decide +kernel), List.mem_of_getElem? (i := 1120) (by decide +kernel), List.mem_of_getElem? (i := 1121) (by decide +kernel)⟩
theorem lw_p62 : lw_okq (⟨"EvenSpringModel", "number", "(II)V"⟩, 16) := ⟨⟨by decide +kernel, by decide +kernel⟩, List.mem_of_getElem? (i := 748) (by decide +kernel), List.mem_of_getElem? (i := 1124) (by decide +kernel), List.mem_of_getElem? (i := 1125) (by decide +kernel)⟩
theorem lw_p63 : lw_okq (⟨"EvenSpringModel", "pilgrimItem", "()V"⟩, 16) := ⟨⟨by decide +kernel, by decide +kernel⟩, List.mem_of_getElem? (i := 748) (by decide +kernel), List.mem_of_getElem? (i := 1132) (by decide +kernel), List.mem_of_getElem? (i := 1133) (by decide +kernel)⟩
def lw_privs_4 : List (MethodName × Nat) := [(⟨"EvenSpringModel", "areTwo", "(II)Z"⟩, 16), (⟨"EvenSpringModel", "agreed", "(III)I"⟩, 16), (⟨"EvenSpringModel", "isAgreed", "(III)Z"⟩, 16), (⟨"EvenSpringModel", "holyBy", "(I)I"⟩, 16), (⟨"EvenSpringModel", "mostAgreed", "(IIII)I"⟩, 16), (⟨"EvenSpringModel", "saves", "()V"⟩, 16), (⟨"EvenSpringModel", "token", "()V"⟩, 16), (⟨"EvenSpringModel", "byteAt", "(I)I"⟩, 16), (⟨"EvenSpringModel", "item", "()V"⟩, 16), (⟨"EvenSpringModel", "kindHere", "()I"⟩, 16), (⟨"EvenSpringModel", "word", "()J"⟩, 16), (⟨"EvenSpringModel", "calendarItem", "(I)V"⟩, 16), (⟨"EvenSpringModel", "must", "(Z)V"⟩, 16), (⟨"EvenSpringModel", "partItem", "(JIII)V"⟩, 16), (⟨"EvenSpringModel", "number", "(II)V"⟩, 16), (⟨"EvenSpringModel", "pilgrimItem", "()V"⟩, 16)]
theorem lw_r4 : ∀ q ∈ lw_privs_4, lw_okq q := List.forall_mem_cons.mpr ⟨lw_p48, List.forall_mem_cons.mpr ⟨lw_p49, List.forall_mem_cons.mpr ⟨lw_p50, List.forall_mem_cons.mpr ⟨lw_p51, List.forall_mem_cons.mpr ⟨lw_p52, List.forall_mem_cons.mpr ⟨lw_p53, List.forall_mem_cons.mpr ⟨lw_p54, List.forall_mem_cons.mpr ⟨lw_p55, List.forall_mem_cons.mpr ⟨lw_p56, List.forall_mem_cons.mpr ⟨lw_p57, List.forall_mem_cons.mpr ⟨lw_p58, List.forall_mem_cons.mpr ⟨lw_p59, List.forall_mem_cons.mpr ⟨lw_p60, List.forall_mem_cons.mpr ⟨lw_p61, List.forall_mem_cons.mpr ⟨lw_p62, List.forall_mem_cons.mpr ⟨lw_p63, fun _ h => absurd h List.not_mem_nil⟩⟩⟩⟩⟩⟩⟩⟩⟩⟩⟩⟩⟩⟩⟩⟩
theorem lw_p64 : lw_okq (⟨"EvenSpringModel", "putsBack", "()V"⟩, 16) := ⟨⟨by decide +kernel, by decide +kernel⟩, List.mem_of_getElem? (i := 748) (by decide +kernel), List.mem_of_getElem? (i := 1139) (by decide +kernel), List.mem_of_getElem? (i := 1140) (by decide +kernel)⟩
theorem lw_p65 : lw_okq (⟨"EvenSpringModel", "wrongSheet", "(I)I"⟩, 16) := ⟨⟨by decide +kernel, by decide +kernel⟩, List.mem_of_getElem? (i := 748) (by decide +kernel), List.mem_of_getElem? (i := 1155) (by decide +kernel), List.mem_of_getElem? (i := 1156) (by decide +kernel)⟩
theorem lw_p66 : lw_okq (⟨"EvenSpringModel", "wrongBook", "(II)I"⟩, 16) := ⟨⟨by decide +kernel, by decide +kernel⟩, List.mem_of_getElem? (i := 748) (by decide +kernel), List.mem_of_getElem? (i := 1175) (by decide +kernel), List.mem_of_getElem? (i := 1176) (by decide +kernel)⟩
theorem lw_p67 : lw_okq (⟨"EvenSpringModel", "isBook", "(II)Z"⟩, 16) := ⟨⟨by decide +kernel, by decide +kernel⟩, List.mem_of_getElem? (i := 748) (by decide +kernel), List.mem_of_getElem? (i := 1183) (by decide +kernel), List.mem_of_getElem? (i := 1184) (by decide +kernel)⟩
def lw_privs_5 : List (MethodName × Nat) := [(⟨"EvenSpringModel", "putsBack", "()V"⟩, 16), (⟨"EvenSpringModel", "wrongSheet", "(I)I"⟩, 16), (⟨"EvenSpringModel", "wrongBook", "(II)I"⟩, 16), (⟨"EvenSpringModel", "isBook", "(II)Z"⟩, 16)]
theorem lw_r5 : ∀ q ∈ lw_privs_5, lw_okq q := List.forall_mem_cons.mpr ⟨lw_p64, List.forall_mem_cons.mpr ⟨lw_p65, List.forall_mem_cons.mpr ⟨lw_p66, List.forall_mem_cons.mpr ⟨lw_p67, fun _ h => absurd h List.not_mem_nil⟩⟩⟩⟩
def lw_privs : List (MethodName × Nat) := lw_privs_1 ++ (lw_privs_2 ++ (lw_privs_3 ++ (lw_privs_4 ++ (lw_privs_5))))
def lw_tbl : List Cond := k2_sels lw_privs ++ tables_1
theorem lw_privs_ok : ∀ q ∈ lw_privs, lw_okq q := by
  show ∀ q ∈ lw_privs_1 ++ (lw_privs_2 ++ (lw_privs_3 ++ (lw_privs_4 ++ (lw_privs_5)))), lw_okq q
  exact List.forall_mem_append.mpr ⟨lw_r1, List.forall_mem_append.mpr ⟨lw_r2, List.forall_mem_append.mpr ⟨lw_r3, List.forall_mem_append.mpr ⟨lw_r4, lw_r5⟩⟩⟩⟩
theorem goodIn_r {big : List Cond} (ws : List Cond) (ps : List Nat) (hp : ws = ps.filterMap (fun i => big[i]?)) (h : ws.all goodWord = true) : GoodIn big ws := by
  intro w hw
  have h1 := List.all_eq_true.mp h w hw
  rw [hp] at hw
  obtain ⟨i, -, hi⟩ := List.mem_filterMap.mp hw
  have hm : w ∈ big := by first | exact List.mem_of_getElem? hi | exact List.getElem?_mem hi
  exact ⟨hm, good_of_word h1⟩
theorem goodIn_app {big a b : List Cond} (ha : GoodIn big a) (hb : GoodIn big b) : GoodIn big (a ++ b) := fun w h => (List.mem_append.mp h).elim (ha w) (hb w)
theorem goodIn_ca {big a b : List Cond} {c : Cond} (ha : GoodIn big (c :: a)) (hb : GoodIn big b) : GoodIn big (c :: (a ++ b)) := fun w h => (List.mem_cons.mp h).elim (fun e => ha w (List.mem_cons.mpr (Or.inl e))) (fun h => (List.mem_append.mp h).elim (fun h => ha w (List.mem_cons.mpr (Or.inr h))) (hb w))
theorem goodIn_sub {big ws : List Cond} (hm : ∀ w ∈ ws, w ∈ big) (h : ws.all goodWord = true) : GoodIn big ws := fun w hw => ⟨hm w hw, good_of_word (List.all_eq_true.mp h w hw)⟩
def RX0 : String := "EvenSpring$Calendar"
def TX0 : u_T := fun k => match k with
  | _ => ("EvenSpring$Calendar", "fields", "[I", true)
def tyX0 : Nat → FieldType := fun k => match k with
  | _ => .array .int
abbrev wsX00 : List Cond := u_ws RX0 TX0 1
theorem nmX0 : ∀ a, a < 1 → ∀ b, b < 1 → a ≠ b → (TX0 a).2.1 ≠ (TX0 b).2.1 := by decide +kernel
theorem tyX0_ok : ∀ k, k < 1 → parseFieldDescriptor (TX0 k).2.2.1 = some (tyX0 k) := by decide +kernel
abbrev cX0_init : ByteArray := prog_2_method_1_code
def yX0_init : MethodName := ⟨RX0, "<init>", "()V"⟩
abbrev cX0_isField : ByteArray := prog_2_method_2_code
def yX0_isField : MethodName := ⟨RX0, "isField", "(I)Z"⟩
abbrev cX0_allows : ByteArray := prog_2_method_3_code
def yX0_allows : MethodName := ⟨RX0, "allows", "(II)Z"⟩
abbrev cX0_least : ByteArray := prog_2_method_4_code
def yX0_least : MethodName := ⟨RX0, "least", "(I)I"⟩
abbrev cX0_greatest : ByteArray := prog_2_method_5_code
def yX0_greatest : MethodName := ⟨RX0, "greatest", "(I)I"⟩
abbrev cX0_startAs : ByteArray := prog_2_method_6_code
def yX0_startAs : MethodName := ⟨RX0, "startAs", "(I)V"⟩
abbrev cX0_become : ByteArray := prog_2_method_7_code
def yX0_become : MethodName := ⟨RX0, "become", "(LEvenSpring$Calendar;)V"⟩
abbrev cX0_value : ByteArray := prog_2_method_8_code
def yX0_value : MethodName := ⟨RX0, "value", "(I)I"⟩
abbrev cX0_change : ByteArray := prog_2_method_9_code
def yX0_change : MethodName := ⟨RX0, "change", "(II)I"⟩
abbrev cX0_isOfKind : ByteArray := prog_2_method_10_code
def yX0_isOfKind : MethodName := ⟨RX0, "isOfKind", "(I)Z"⟩
abbrev cX0_length : ByteArray := prog_2_method_11_code
def yX0_length : MethodName := ⟨RX0, "length", "()I"⟩
abbrev cX0_runsAt : ByteArray := prog_2_method_12_code
def yX0_runsAt : MethodName := ⟨RX0, "runsAt", "(I)I"⟩
abbrev cX0_runsAsNew : ByteArray := prog_2_method_13_code
def yX0_runsAsNew : MethodName := ⟨RX0, "runsAsNew", "(I)I"⟩
abbrev cX0_jugDaysUpTo : ByteArray := prog_2_method_14_code
def yX0_jugDaysUpTo : MethodName := ⟨RX0, "jugDaysUpTo", "(I)I"⟩
abbrev cX0_dateAt : ByteArray := prog_2_method_15_code
def yX0_dateAt : MethodName := ⟨RX0, "dateAt", "(I)I"⟩
abbrev cX0_monthAt : ByteArray := prog_2_method_16_code
def yX0_monthAt : MethodName := ⟨RX0, "monthAt", "(I)I"⟩
abbrev cX0_isHoly : ByteArray := prog_2_method_17_code
def yX0_isHoly : MethodName := ⟨RX0, "isHoly", "(I)Z"⟩
def RX1 : String := "EvenSpring$Pilgrim"
def TX1 : u_T := fun k => match k with
  | 0 => ("EvenSpring$Pilgrim", "ill", "I", false)
  | 1 => ("EvenSpring$Pilgrim", "trusts", "I", false)
  | _ => ("EvenSpring$Pilgrim", "bathed", "I", false)
def tyX1 : Nat → FieldType := fun k => match k with
  | 0 => .int
  | 1 => .int
  | _ => .int
abbrev wsX10 : List Cond := u_ws RX1 TX1 3
theorem nmX1 : ∀ a, a < 3 → ∀ b, b < 3 → a ≠ b → (TX1 a).2.1 ≠ (TX1 b).2.1 := by decide +kernel
theorem tyX1_ok : ∀ k, k < 3 → parseFieldDescriptor (TX1 k).2.2.1 = some (tyX1 k) := by decide +kernel
abbrev cX1_init : ByteArray := prog_3_method_1_code
def yX1_init : MethodName := ⟨RX1, "<init>", "()V"⟩
abbrev cX1_startWith : ByteArray := prog_3_method_2_code
def yX1_startWith : MethodName := ⟨RX1, "startWith", "(II)V"⟩
abbrev cX1_become : ByteArray := prog_3_method_3_code
def yX1_become : MethodName := ⟨RX1, "become", "(LEvenSpring$Pilgrim;)V"⟩
abbrev cX1_takeWater : ByteArray := prog_3_method_4_code
def yX1_takeWater : MethodName := ⟨RX1, "takeWater", "(ZI)V"⟩
abbrev cX1_takeBath : ByteArray := prog_3_method_5_code
def yX1_takeBath : MethodName := ⟨RX1, "takeBath", "(ZI)V"⟩
abbrev cX1_passDay : ByteArray := prog_3_method_6_code
def yX1_passDay : MethodName := ⟨RX1, "passDay", "(III)V"⟩
def RX2 : String := "EvenSpring$Sheet"
def TX2 : u_T := fun k => match k with
  | 0 => ("EvenSpring$Sheet", "bits", "I", false)
  | 1 => ("EvenSpring$Sheet", "size", "I", false)
  | _ => ("EvenSpring$Sheet", "numbers", "[J", true)
def tyX2 : Nat → FieldType := fun k => match k with
  | 0 => .int
  | 1 => .int
  | _ => .array .long
abbrev wsX20 : List Cond := u_ws RX2 TX2 3
theorem nmX2 : ∀ a, a < 3 → ∀ b, b < 3 → a ≠ b → (TX2 a).2.1 ≠ (TX2 b).2.1 := by decide +kernel
theorem tyX2_ok : ∀ k, k < 3 → parseFieldDescriptor (TX2 k).2.2.1 = some (tyX2 k) := by decide +kernel
abbrev cX2_init : ByteArray := prog_4_method_1_code
def yX2_init : MethodName := ⟨RX2, "<init>", "()V"⟩
abbrev cX2_allows : ByteArray := prog_4_method_2_code
def yX2_allows : MethodName := ⟨RX2, "allows", "(I)Z"⟩
abbrev cX2_lay : ByteArray := prog_4_method_3_code
def yX2_lay : MethodName := ⟨RX2, "lay", "(II)V"⟩
abbrev cX2_isMissing : ByteArray := prog_4_method_4_code
def yX2_isMissing : MethodName := ⟨RX2, "isMissing", "()Z"⟩
abbrev cX2_hasRange : ByteArray := prog_4_method_5_code
def yX2_hasRange : MethodName := ⟨RX2, "hasRange", "(II)Z"⟩
abbrev cX2_numberAt : ByteArray := prog_4_method_6_code
def yX2_numberAt : MethodName := ⟨RX2, "numberAt", "(I)J"⟩
abbrev cX2_put : ByteArray := prog_4_method_7_code
def yX2_put : MethodName := ⟨RX2, "put", "(IJ)V"⟩
abbrev cX2_lowest : ByteArray := prog_4_method_8_code
def yX2_lowest : MethodName := ⟨RX2, "lowest", "(J)J"⟩
def RX3 : String := "EvenSpring$Spring"
def TX3 : u_T := fun k => match k with
  | 0 => ("EvenSpring$Spring", "day", "I", false)
  | 1 => ("EvenSpring$Spring", "power", "I", false)
  | 2 => ("EvenSpring$Spring", "truth", "I", false)
  | 3 => ("EvenSpring$Spring", "good", "I", false)
  | 4 => ("EvenSpring$Spring", "bad", "I", false)
  | 5 => ("EvenSpring$Spring", "calendarCount", "I", false)
  | 6 => ("EvenSpring$Spring", "pilgrimCount", "I", false)
  | 7 => ("EvenSpring$Spring", "calendars", "[LEvenSpring$Calendar;", true)
  | _ => ("EvenSpring$Spring", "pilgrims", "[LEvenSpring$Pilgrim;", true)
def tyX3 : Nat → FieldType := fun k => match k with
  | 0 => .int
  | 1 => .int
  | 2 => .int
  | 3 => .int
  | 4 => .int
  | 5 => .int
  | 6 => .int
  | 7 => .array (.object "EvenSpring$Calendar")
  | _ => .array (.object "EvenSpring$Pilgrim")
abbrev wsX30 : List Cond := u_ws RX3 TX3 9
theorem nmX3 : ∀ a, a < 9 → ∀ b, b < 9 → a ≠ b → (TX3 a).2.1 ≠ (TX3 b).2.1 := by decide +kernel
theorem tyX3_ok : ∀ k, k < 9 → parseFieldDescriptor (TX3 k).2.2.1 = some (tyX3 k) := by decide +kernel
abbrev cX3_init : ByteArray := prog_5_method_1_code
def yX3_init : MethodName := ⟨RX3, "<init>", "()V"⟩
abbrev cX3_become : ByteArray := prog_5_method_2_code
def yX3_become : MethodName := ⟨RX3, "become", "(LEvenSpring$Spring;)V"⟩
abbrev cX3_calendarAt : ByteArray := prog_5_method_3_code
def yX3_calendarAt : MethodName := ⟨RX3, "calendarAt", "(I)LEvenSpring$Calendar;"⟩
abbrev cX3_pilgrimAt : ByteArray := prog_5_method_4_code
def yX3_pilgrimAt : MethodName := ⟨RX3, "pilgrimAt", "(I)LEvenSpring$Pilgrim;"⟩
abbrev cX3_hasBoth : ByteArray := prog_5_method_5_code
def yX3_hasBoth : MethodName := ⟨RX3, "hasBoth", "(II)Z"⟩
abbrev cX3_canTrust : ByteArray := prog_5_method_6_code
def yX3_canTrust : MethodName := ⟨RX3, "canTrust", "(I)Z"⟩
abbrev cX3_addCalendar : ByteArray := prog_5_method_7_code
def yX3_addCalendar : MethodName := ⟨RX3, "addCalendar", "(I)V"⟩
abbrev cX3_addPilgrim : ByteArray := prog_5_method_8_code
def yX3_addPilgrim : MethodName := ⟨RX3, "addPilgrim", "(II)V"⟩
abbrev cX3_isHolyBy : ByteArray := prog_5_method_9_code
def yX3_isHolyBy : MethodName := ⟨RX3, "isHolyBy", "(II)Z"⟩
abbrev cX3_holySet : ByteArray := prog_5_method_10_code
def yX3_holySet : MethodName := ⟨RX3, "holySet", "(I)I"⟩
abbrev cX3_takeJug : ByteArray := prog_5_method_11_code
def yX3_takeJug : MethodName := ⟨RX3, "takeJug", "(Z)Z"⟩
abbrev cX3_passDay : ByteArray := prog_5_method_12_code
def yX3_passDay : MethodName := ⟨RX3, "passDay", "()V"⟩
abbrev cX3_drawJug : ByteArray := prog_5_method_13_code
def yX3_drawJug : MethodName := ⟨RX3, "drawJug", "(Z)V"⟩
abbrev cX3_wellSet : ByteArray := prog_5_method_14_code
def yX3_wellSet : MethodName := ⟨RX3, "wellSet", "()I"⟩
abbrev cX3_illOfAll : ByteArray := prog_5_method_15_code
def yX3_illOfAll : MethodName := ⟨RX3, "illOfAll", "()I"⟩
abbrev cX3_bathedOfAll : ByteArray := prog_5_method_16_code
def yX3_bathedOfAll : MethodName := ⟨RX3, "bathedOfAll", "()I"⟩
def RX4 : String := "EvenSpring$SpringText"
def TX4 : u_T := fun k => match k with
  | 0 => ("EvenSpring$SpringText", "tape", "[B", true)
  | 1 => ("EvenSpring$SpringText", "length", "I", false)
  | 2 => ("EvenSpring$SpringText", "told", "LEvenSpring$Spring;", true)
  | 3 => ("EvenSpring$SpringText", "token", "I", false)
  | 4 => ("EvenSpring$SpringText", "start", "I", false)
  | 5 => ("EvenSpring$SpringText", "end", "I", false)
  | _ => ("EvenSpring$SpringText", "number", "I", false)
def tyX4 : Nat → FieldType := fun k => match k with
  | 0 => .array .byte
  | 1 => .int
  | 2 => .object "EvenSpring$Spring"
  | 3 => .int
  | 4 => .int
  | 5 => .int
  | _ => .int
abbrev wsX40 : List Cond := u_ws RX4 TX4 7
theorem nmX4 : ∀ a, a < 7 → ∀ b, b < 7 → a ≠ b → (TX4 a).2.1 ≠ (TX4 b).2.1 := by decide +kernel
theorem tyX4_ok : ∀ k, k < 7 → parseFieldDescriptor (TX4 k).2.2.1 = some (tyX4 k) := by decide +kernel
abbrev cX4_init : ByteArray := prog_6_method_1_code
def yX4_init : MethodName := ⟨RX4, "<init>", "()V"⟩
abbrev cX4_add : ByteArray := prog_6_method_2_code
def yX4_add : MethodName := ⟨RX4, "add", "(B)V"⟩
abbrev cX4_tell : ByteArray := prog_6_method_3_code
def yX4_tell : MethodName := ⟨RX4, "tell", "(LEvenSpring$Spring;)I"⟩
abbrev cX4_tellItem : ByteArray := prog_6_method_4_code
def yX4_tellItem : MethodName := ⟨RX4, "tellItem", "()Z"⟩
abbrev cX4_tellTruth : ByteArray := prog_6_method_5_code
def yX4_tellTruth : MethodName := ⟨RX4, "tellTruth", "()Z"⟩
abbrev cX4_tellPower : ByteArray := prog_6_method_6_code
def yX4_tellPower : MethodName := ⟨RX4, "tellPower", "()Z"⟩
abbrev cX4_tellCalendar : ByteArray := prog_6_method_7_code
def yX4_tellCalendar : MethodName := ⟨RX4, "tellCalendar", "()Z"⟩
abbrev cX4_tellField : ByteArray := prog_6_method_8_code
def yX4_tellField : MethodName := ⟨RX4, "tellField", "(Ljava/lang/String;I)Z"⟩
abbrev cX4_tellPilgrim : ByteArray := prog_6_method_9_code
def yX4_tellPilgrim : MethodName := ⟨RX4, "tellPilgrim", "()Z"⟩
abbrev cX4_isNumber : ByteArray := prog_6_method_10_code
def yX4_isNumber : MethodName := ⟨RX4, "isNumber", "(II)Z"⟩
abbrev cX4_kindNamed : ByteArray := prog_6_method_11_code
def yX4_kindNamed : MethodName := ⟨RX4, "kindNamed", "()I"⟩
abbrev cX4_nameOf : ByteArray := prog_6_method_12_code
def yX4_nameOf : MethodName := ⟨RX4, "nameOf", "(I)Ljava/lang/String;"⟩
abbrev cX4_isWord : ByteArray := prog_6_method_13_code
def yX4_isWord : MethodName := ⟨RX4, "isWord", "(Ljava/lang/String;)Z"⟩
abbrev cX4_readToken : ByteArray := prog_6_method_14_code
def yX4_readToken : MethodName := ⟨RX4, "readToken", "()V"⟩
abbrev cX4_isLetter : ByteArray := prog_6_method_15_code
def yX4_isLetter : MethodName := ⟨RX4, "isLetter", "(I)Z"⟩
abbrev cX4_isDigit : ByteArray := prog_6_method_16_code
def yX4_isDigit : MethodName := ⟨RX4, "isDigit", "(I)Z"⟩
abbrev cX4_byteAt : ByteArray := prog_6_method_17_code
def yX4_byteAt : MethodName := ⟨RX4, "byteAt", "(I)I"⟩
def RX5 : String := "EvenSpring"
def TX5 : u_T := fun k => match k with
  | 0 => ("EvenSpring", "here", "LEvenSpring$Spring;", true)
  | 1 => ("EvenSpring", "kept", "LEvenSpring$Spring;", true)
  | 2 => ("EvenSpring", "isKept", "Z", false)
  | 3 => ("EvenSpring", "text", "LEvenSpring$SpringText;", true)
  | 4 => ("EvenSpring", "sheets", "[LEvenSpring$Sheet;", true)
  | 5 => ("EvenSpring", "findings", "[I", true)
  | 6 => ("EvenSpring", "ahead", "[I", true)
  | 7 => ("EvenSpring", "trial", "LEvenSpring$Pilgrim;", true)
  | _ => ("EvenSpring", "tried", "LEvenSpring$Calendar;", true)
def tyX5 : Nat → FieldType := fun k => match k with
  | 0 => .object "EvenSpring$Spring"
  | 1 => .object "EvenSpring$Spring"
  | 2 => .boolean
  | 3 => .object "EvenSpring$SpringText"
  | 4 => .array (.object "EvenSpring$Sheet")
  | 5 => .array .int
  | 6 => .array .int
  | 7 => .object "EvenSpring$Pilgrim"
  | _ => .object "EvenSpring$Calendar"
abbrev wsX50 : List Cond := u_ws RX5 TX5 9
theorem nmX5 : ∀ a, a < 9 → ∀ b, b < 9 → a ≠ b → (TX5 a).2.1 ≠ (TX5 b).2.1 := by decide +kernel
theorem tyX5_ok : ∀ k, k < 9 → parseFieldDescriptor (TX5 k).2.2.1 = some (tyX5 k) := by decide +kernel
abbrev cX5_init : ByteArray := prog_1_method_1_code
def yX5_init : MethodName := ⟨RX5, "<init>", "()V"⟩
abbrev cX5_calendar : ByteArray := prog_1_method_2_code
def yX5_calendar : MethodName := ⟨RX5, "calendar", "(I)I"⟩
abbrev cX5_of : ByteArray := prog_1_method_3_code
def yX5_of : MethodName := ⟨RX5, "of", "(II)I"⟩
abbrev cX5_set : ByteArray := prog_1_method_4_code
def yX5_set : MethodName := ⟨RX5, "set", "(III)I"⟩
abbrev cX5_turn : ByteArray := prog_1_method_5_code
def yX5_turn : MethodName := ⟨RX5, "turn", "(II)I"⟩
abbrev cX5_as : ByteArray := prog_1_method_6_code
def yX5_as : MethodName := ⟨RX5, "as", "(II)I"⟩
abbrev cX5_date : ByteArray := prog_1_method_7_code
def yX5_date : MethodName := ⟨RX5, "date", "(III)I"⟩
abbrev cX5_law : ByteArray := prog_1_method_8_code
def yX5_law : MethodName := ⟨RX5, "law", "(II)I"⟩
abbrev cX5_pilgrim : ByteArray := prog_1_method_9_code
def yX5_pilgrim : MethodName := ⟨RX5, "pilgrim", "(II)I"⟩
abbrev cX5_about : ByteArray := prog_1_method_10_code
def yX5_about : MethodName := ⟨RX5, "about", "(II)I"⟩
abbrev cX5_mind : ByteArray := prog_1_method_11_code
def yX5_mind : MethodName := ⟨RX5, "mind", "(III)I"⟩
abbrev cX5_drink : ByteArray := prog_1_method_12_code
def yX5_drink : MethodName := ⟨RX5, "drink", "(II)I"⟩
abbrev cX5_bathe : ByteArray := prog_1_method_13_code
def yX5_bathe : MethodName := ⟨RX5, "bathe", "(I)I"⟩
abbrev cX5_days : ByteArray := prog_1_method_14_code
def yX5_days : MethodName := ⟨RX5, "days", "(I)I"⟩
abbrev cX5_now : ByteArray := prog_1_method_15_code
def yX5_now : MethodName := ⟨RX5, "now", "(I)I"⟩
abbrev cX5_on : ByteArray := prog_1_method_16_code
def yX5_on : MethodName := ⟨RX5, "on", "(III)I"⟩
abbrev cX5_well : ByteArray := prog_1_method_17_code
def yX5_well : MethodName := ⟨RX5, "well", "(I)I"⟩
abbrev cX5_next : ByteArray := prog_1_method_18_code
def yX5_next : MethodName := ⟨RX5, "next", "(I)I"⟩
abbrev cX5_agree : ByteArray := prog_1_method_19_code
def yX5_agree : MethodName := ⟨RX5, "agree", "(III)I"⟩
abbrev cX5_row : ByteArray := prog_1_method_20_code
def yX5_row : MethodName := ⟨RX5, "row", "(III)I"⟩
abbrev cX5_meet : ByteArray := prog_1_method_21_code
def yX5_meet : MethodName := ⟨RX5, "meet", "(I)I"⟩
abbrev cX5_both : ByteArray := prog_1_method_22_code
def yX5_both : MethodName := ⟨RX5, "both", "(IIII)I"⟩
abbrev cX5_trust : ByteArray := prog_1_method_23_code
def yX5_trust : MethodName := ⟨RX5, "trust", "(I)I"⟩
abbrev cX5_truth : ByteArray := prog_1_method_24_code
def yX5_truth : MethodName := ⟨RX5, "truth", "(I)I"⟩
abbrev cX5_cure : ByteArray := prog_1_method_25_code
def yX5_cure : MethodName := ⟨RX5, "cure", "(I)I"⟩
abbrev cX5_kind : ByteArray := prog_1_method_26_code
def yX5_kind : MethodName := ⟨RX5, "kind", "(II)I"⟩
abbrev cX5_begin : ByteArray := prog_1_method_27_code
def yX5_begin : MethodName := ⟨RX5, "begin", "(II)I"⟩
abbrev cX5_power : ByteArray := prog_1_method_28_code
def yX5_power : MethodName := ⟨RX5, "power", "(I)I"⟩
abbrev cX5_feed : ByteArray := prog_1_method_29_code
def yX5_feed : MethodName := ⟨RX5, "feed", "(II)I"⟩
abbrev cX5_wipe : ByteArray := prog_1_method_30_code
def yX5_wipe : MethodName := ⟨RX5, "wipe", "()I"⟩
abbrev cX5_spring : ByteArray := prog_1_method_31_code
def yX5_spring : MethodName := ⟨RX5, "spring", "()I"⟩
abbrev cX5_sheet : ByteArray := prog_1_method_32_code
def yX5_sheet : MethodName := ⟨RX5, "sheet", "(III)I"⟩
abbrev cX5_write : ByteArray := prog_1_method_33_code
def yX5_write : MethodName := ⟨RX5, "write", "(IIJ)J"⟩
abbrev cX5_copy : ByteArray := prog_1_method_34_code
def yX5_copy : MethodName := ⟨RX5, "copy", "(IIIII)I"⟩
abbrev cX5_lays : ByteArray := prog_1_method_35_code
def yX5_lays : MethodName := ⟨RX5, "lays", "(I)I"⟩
abbrev cX5_book : ByteArray := prog_1_method_36_code
def yX5_book : MethodName := ⟨RX5, "book", "(II)I"⟩
abbrev cX5_read : ByteArray := prog_1_method_37_code
def yX5_read : MethodName := ⟨RX5, "read", "(II)I"⟩
abbrev cX5_image : ByteArray := prog_1_method_38_code
def yX5_image : MethodName := ⟨RX5, "image", "()I"⟩
abbrev cX5_undo : ByteArray := prog_1_method_39_code
def yX5_undo : MethodName := ⟨RX5, "undo", "()I"⟩
abbrev cX5_tear : ByteArray := prog_1_method_40_code
def yX5_tear : MethodName := ⟨RX5, "tear", "()I"⟩
abbrev cX5_count : ByteArray := prog_1_method_41_code
def yX5_count : MethodName := ⟨RX5, "count", "(I)I"⟩
abbrev cX5_status : ByteArray := prog_1_method_42_code
def yX5_status : MethodName := ⟨RX5, "status", "(I)I"⟩
abbrev cX5_found : ByteArray := prog_1_method_43_code
def yX5_found : MethodName := ⟨RX5, "found", "(I)I"⟩
abbrev cX5_sheetAt : ByteArray := prog_1_method_44_code
def yX5_sheetAt : MethodName := ⟨RX5, "sheetAt", "(I)LEvenSpring$Sheet;"⟩
abbrev cX5_lookAhead : ByteArray := prog_1_method_45_code
def yX5_lookAhead : MethodName := ⟨RX5, "lookAhead", "(I)V"⟩
abbrev cX5_agreeAhead : ByteArray := prog_1_method_46_code
def yX5_agreeAhead : MethodName := ⟨RX5, "agreeAhead", "(III)Z"⟩
abbrev cX5_tryDays : ByteArray := prog_1_method_47_code
def yX5_tryDays : MethodName := ⟨RX5, "tryDays", "(LEvenSpring$Pilgrim;III)V"⟩
abbrev cX5_daysToWell : ByteArray := prog_1_method_48_code
def yX5_daysToWell : MethodName := ⟨RX5, "daysToWell", "(LEvenSpring$Pilgrim;I)I"⟩
abbrev cX5_illOfAllAhead : ByteArray := prog_1_method_49_code
def yX5_illOfAllAhead : MethodName := ⟨RX5, "illOfAllAhead", "(II)I"⟩
abbrev cX5_wellAhead : ByteArray := prog_1_method_50_code
def yX5_wellAhead : MethodName := ⟨RX5, "wellAhead", "(II)I"⟩
abbrev cX5_bestValue : ByteArray := prog_1_method_51_code
def yX5_bestValue : MethodName := ⟨RX5, "bestValue", "(IIII)I"⟩
abbrev cX5_agreementsOfTried : ByteArray := prog_1_method_52_code
def yX5_agreementsOfTried : MethodName := ⟨RX5, "agreementsOfTried", "(I)I"⟩
abbrev cX5_makesJustSo : ByteArray := prog_1_method_53_code
def yX5_makesJustSo : MethodName := ⟨RX5, "makesJustSo", "(LEvenSpring$Sheet;LEvenSpring$Pilgrim;II)Z"⟩
abbrev cX5_within : ByteArray := prog_1_method_54_code
def yX5_within : MethodName := ⟨RX5, "within", "(III)Z"⟩
abbrev cX5_isIn : ByteArray := prog_1_method_55_code
def yX5_isIn : MethodName := ⟨RX5, "isIn", "(II)Z"⟩
def RX6 : String := "EvenSpringModel"
def TX6 : u_T := fun k => match k with
  | 0 => ("EvenSpringModel", "s", "[I", true)
  | 1 => ("EvenSpringModel", "keptS", "[I", true)
  | 2 => ("EvenSpringModel", "other", "[I", true)
  | 3 => ("EvenSpringModel", "aside", "[I", true)
  | 4 => ("EvenSpringModel", "statuses", "[I", true)
  | 5 => ("EvenSpringModel", "isKept", "Z", false)
  | 6 => ("EvenSpringModel", "tape", "[I", true)
  | 7 => ("EvenSpringModel", "taped", "I", false)
  | 8 => ("EvenSpringModel", "from", "I", false)
  | 9 => ("EvenSpringModel", "to", "I", false)
  | 10 => ("EvenSpringModel", "value", "I", false)
  | 11 => ("EvenSpringModel", "isWrong", "Z", false)
  | 12 => ("EvenSpringModel", "bitsOf", "[I", true)
  | 13 => ("EvenSpringModel", "sizeOf", "[I", true)
  | 14 => ("EvenSpringModel", "numbers", "[J", true)
  | _ => ("EvenSpringModel", "moved", "[J", true)
def tyX6 : Nat → FieldType := fun k => match k with
  | 0 => .array .int
  | 1 => .array .int
  | 2 => .array .int
  | 3 => .array .int
  | 4 => .array .int
  | 5 => .boolean
  | 6 => .array .int
  | 7 => .int
  | 8 => .int
  | 9 => .int
  | 10 => .int
  | 11 => .boolean
  | 12 => .array .int
  | 13 => .array .int
  | 14 => .array .long
  | _ => .array .long
abbrev wsX60 : List Cond := u_ws RX6 TX6 16
theorem nmX6 : ∀ a, a < 16 → ∀ b, b < 16 → a ≠ b → (TX6 a).2.1 ≠ (TX6 b).2.1 := by decide +kernel
theorem tyX6_ok : ∀ k, k < 16 → parseFieldDescriptor (TX6 k).2.2.1 = some (tyX6 k) := by decide +kernel
abbrev cX6_init : ByteArray := prog_8_method_1_code
def yX6_init : MethodName := ⟨RX6, "<init>", "()V"⟩
abbrev cX6_in : ByteArray := prog_8_method_2_code
def yX6_in : MethodName := ⟨RX6, "in", "(JJJ)Z"⟩
abbrev cX6_finds : ByteArray := prog_8_method_3_code
def yX6_finds : MethodName := ⟨RX6, "finds", "(I)I"⟩
abbrev cX6_saves : ByteArray := prog_8_method_4_code
def yX6_saves : MethodName := ⟨RX6, "saves", "()V"⟩
abbrev cX6_putsBack : ByteArray := prog_8_method_5_code
def yX6_putsBack : MethodName := ⟨RX6, "putsBack", "()V"⟩
abbrev cX6_laysAside : ByteArray := prog_8_method_6_code
def yX6_laysAside : MethodName := ⟨RX6, "laysAside", "()V"⟩
abbrev cX6_takesBack : ByteArray := prog_8_method_7_code
def yX6_takesBack : MethodName := ⟨RX6, "takesBack", "(I)I"⟩
abbrev cX6_becomes : ByteArray := prog_8_method_8_code
def yX6_becomes : MethodName := ⟨RX6, "becomes", "(II)I"⟩
abbrev cX6_isCalendar : ByteArray := prog_8_method_9_code
def yX6_isCalendar : MethodName := ⟨RX6, "isCalendar", "(I)Z"⟩
abbrev cX6_areTwo : ByteArray := prog_8_method_10_code
def yX6_areTwo : MethodName := ⟨RX6, "areTwo", "(II)Z"⟩
abbrev cX6_isPilgrim : ByteArray := prog_8_method_11_code
def yX6_isPilgrim : MethodName := ⟨RX6, "isPilgrim", "(I)Z"⟩
abbrev cX6_isKind : ByteArray := prog_8_method_12_code
def yX6_isKind : MethodName := ⟨RX6, "isKind", "(I)Z"⟩
abbrev cX6_its : ByteArray := prog_8_method_13_code
def yX6_its : MethodName := ⟨RX6, "its", "(II)I"⟩
abbrev cX6_spot : ByteArray := prog_8_method_14_code
def yX6_spot : MethodName := ⟨RX6, "spot", "(II)I"⟩
abbrev cX6_isOf : ByteArray := prog_8_method_15_code
def yX6_isOf : MethodName := ⟨RX6, "isOf", "(II)I"⟩
abbrev cX6_adds : ByteArray := prog_8_method_16_code
def yX6_adds : MethodName := ⟨RX6, "adds", "(I)I"⟩
abbrev cX6_calendar : ByteArray := prog_8_method_17_code
def yX6_calendar : MethodName := ⟨RX6, "calendar", "(I)I"⟩
abbrev cX6_of : ByteArray := prog_8_method_18_code
def yX6_of : MethodName := ⟨RX6, "of", "(II)I"⟩
abbrev cX6_isPart : ByteArray := prog_8_method_19_code
def yX6_isPart : MethodName := ⟨RX6, "isPart", "(II)Z"⟩
abbrev cX6_set : ByteArray := prog_8_method_20_code
def yX6_set : MethodName := ⟨RX6, "set", "(III)I"⟩
abbrev cX6_turn : ByteArray := prog_8_method_21_code
def yX6_turn : MethodName := ⟨RX6, "turn", "(II)I"⟩
abbrev cX6_isUnder : ByteArray := prog_8_method_22_code
def yX6_isUnder : MethodName := ⟨RX6, "isUnder", "(II)Z"⟩
abbrev cX6_as : ByteArray := prog_8_method_23_code
def yX6_as : MethodName := ⟨RX6, "as", "(II)I"⟩
abbrev cX6_runs : ByteArray := prog_8_method_24_code
def yX6_runs : MethodName := ⟨RX6, "runs", "(II)I"⟩
abbrev cX6_dateOf : ByteArray := prog_8_method_25_code
def yX6_dateOf : MethodName := ⟨RX6, "dateOf", "(II)I"⟩
abbrev cX6_monthOf : ByteArray := prog_8_method_26_code
def yX6_monthOf : MethodName := ⟨RX6, "monthOf", "(II)I"⟩
abbrev cX6_isHoly : ByteArray := prog_8_method_27_code
def yX6_isHoly : MethodName := ⟨RX6, "isHoly", "(II)Z"⟩
abbrev cX6_date : ByteArray := prog_8_method_28_code
def yX6_date : MethodName := ⟨RX6, "date", "(III)I"⟩
abbrev cX6_law : ByteArray := prog_8_method_29_code
def yX6_law : MethodName := ⟨RX6, "law", "(II)I"⟩
abbrev cX6_comes : ByteArray := prog_8_method_30_code
def yX6_comes : MethodName := ⟨RX6, "comes", "(II)I"⟩
abbrev cX6_isTrust : ByteArray := prog_8_method_31_code
def yX6_isTrust : MethodName := ⟨RX6, "isTrust", "(I)Z"⟩
abbrev cX6_pilgrim : ByteArray := prog_8_method_32_code
def yX6_pilgrim : MethodName := ⟨RX6, "pilgrim", "(II)I"⟩
abbrev cX6_about : ByteArray := prog_8_method_33_code
def yX6_about : MethodName := ⟨RX6, "about", "(II)I"⟩
abbrev cX6_mind : ByteArray := prog_8_method_34_code
def yX6_mind : MethodName := ⟨RX6, "mind", "(III)I"⟩
abbrev cX6_helps : ByteArray := prog_8_method_35_code
def yX6_helps : MethodName := ⟨RX6, "helps", "(IZ)V"⟩
abbrev cX6_drink : ByteArray := prog_8_method_36_code
def yX6_drink : MethodName := ⟨RX6, "drink", "(II)I"⟩
abbrev cX6_bathes : ByteArray := prog_8_method_37_code
def yX6_bathes : MethodName := ⟨RX6, "bathes", "(I)V"⟩
abbrev cX6_bathe : ByteArray := prog_8_method_38_code
def yX6_bathe : MethodName := ⟨RX6, "bathe", "(I)I"⟩
abbrev cX6_day : ByteArray := prog_8_method_39_code
def yX6_day : MethodName := ⟨RX6, "day", "()V"⟩
abbrev cX6_goesOn : ByteArray := prog_8_method_40_code
def yX6_goesOn : MethodName := ⟨RX6, "goesOn", "(I)V"⟩
abbrev cX6_wellOnes : ByteArray := prog_8_method_41_code
def yX6_wellOnes : MethodName := ⟨RX6, "wellOnes", "()I"⟩
abbrev cX6_ones : ByteArray := prog_8_method_42_code
def yX6_ones : MethodName := ⟨RX6, "ones", "(I)I"⟩
abbrev cX6_days : ByteArray := prog_8_method_43_code
def yX6_days : MethodName := ⟨RX6, "days", "(I)I"⟩
abbrev cX6_together : ByteArray := prog_8_method_44_code
def yX6_together : MethodName := ⟨RX6, "together", "(I)I"⟩
abbrev cX6_now : ByteArray := prog_8_method_45_code
def yX6_now : MethodName := ⟨RX6, "now", "(I)I"⟩
abbrev cX6_on : ByteArray := prog_8_method_46_code
def yX6_on : MethodName := ⟨RX6, "on", "(III)I"⟩
abbrev cX6_wellIn : ByteArray := prog_8_method_47_code
def yX6_wellIn : MethodName := ⟨RX6, "wellIn", "(I)I"⟩
abbrev cX6_well : ByteArray := prog_8_method_48_code
def yX6_well : MethodName := ⟨RX6, "well", "(I)I"⟩
abbrev cX6_next : ByteArray := prog_8_method_49_code
def yX6_next : MethodName := ⟨RX6, "next", "(I)I"⟩
abbrev cX6_isAgreed : ByteArray := prog_8_method_50_code
def yX6_isAgreed : MethodName := ⟨RX6, "isAgreed", "(III)Z"⟩
abbrev cX6_agreed : ByteArray := prog_8_method_51_code
def yX6_agreed : MethodName := ⟨RX6, "agreed", "(III)I"⟩
abbrev cX6_agree : ByteArray := prog_8_method_52_code
def yX6_agree : MethodName := ⟨RX6, "agree", "(III)I"⟩
abbrev cX6_row : ByteArray := prog_8_method_53_code
def yX6_row : MethodName := ⟨RX6, "row", "(III)I"⟩
abbrev cX6_holyBy : ByteArray := prog_8_method_54_code
def yX6_holyBy : MethodName := ⟨RX6, "holyBy", "(I)I"⟩
abbrev cX6_meet : ByteArray := prog_8_method_55_code
def yX6_meet : MethodName := ⟨RX6, "meet", "(I)I"⟩
abbrev cX6_isDate : ByteArray := prog_8_method_56_code
def yX6_isDate : MethodName := ⟨RX6, "isDate", "(I)Z"⟩
abbrev cX6_both : ByteArray := prog_8_method_57_code
def yX6_both : MethodName := ⟨RX6, "both", "(IIII)I"⟩
abbrev cX6_trust : ByteArray := prog_8_method_58_code
def yX6_trust : MethodName := ⟨RX6, "trust", "(I)I"⟩
abbrev cX6_truth : ByteArray := prog_8_method_59_code
def yX6_truth : MethodName := ⟨RX6, "truth", "(I)I"⟩
abbrev cX6_cure : ByteArray := prog_8_method_60_code
def yX6_cure : MethodName := ⟨RX6, "cure", "(I)I"⟩
abbrev cX6_mostAgreed : ByteArray := prog_8_method_61_code
def yX6_mostAgreed : MethodName := ⟨RX6, "mostAgreed", "(IIII)I"⟩
abbrev cX6_kind : ByteArray := prog_8_method_62_code
def yX6_kind : MethodName := ⟨RX6, "kind", "(II)I"⟩
abbrev cX6_begin : ByteArray := prog_8_method_63_code
def yX6_begin : MethodName := ⟨RX6, "begin", "(II)I"⟩
abbrev cX6_power : ByteArray := prog_8_method_64_code
def yX6_power : MethodName := ⟨RX6, "power", "(I)I"⟩
abbrev cX6_feed : ByteArray := prog_8_method_65_code
def yX6_feed : MethodName := ⟨RX6, "feed", "(II)I"⟩
abbrev cX6_wipe : ByteArray := prog_8_method_66_code
def yX6_wipe : MethodName := ⟨RX6, "wipe", "()I"⟩
abbrev cX6_byteAt : ByteArray := prog_8_method_67_code
def yX6_byteAt : MethodName := ⟨RX6, "byteAt", "(I)I"⟩
abbrev cX6_isLetter : ByteArray := prog_8_method_68_code
def yX6_isLetter : MethodName := ⟨RX6, "isLetter", "(I)Z"⟩
abbrev cX6_isDigit : ByteArray := prog_8_method_69_code
def yX6_isDigit : MethodName := ⟨RX6, "isDigit", "(I)Z"⟩
abbrev cX6_token : ByteArray := prog_8_method_70_code
def yX6_token : MethodName := ⟨RX6, "token", "()V"⟩
abbrev cX6_must : ByteArray := prog_8_method_71_code
def yX6_must : MethodName := ⟨RX6, "must", "(Z)V"⟩
abbrev cX6_word : ByteArray := prog_8_method_72_code
def yX6_word : MethodName := ⟨RX6, "word", "()J"⟩
abbrev cX6_number : ByteArray := prog_8_method_73_code
def yX6_number : MethodName := ⟨RX6, "number", "(II)V"⟩
abbrev cX6_kindHere : ByteArray := prog_8_method_74_code
def yX6_kindHere : MethodName := ⟨RX6, "kindHere", "()I"⟩
abbrev cX6_partItem : ByteArray := prog_8_method_75_code
def yX6_partItem : MethodName := ⟨RX6, "partItem", "(JIII)V"⟩
abbrev cX6_calendarItem : ByteArray := prog_8_method_76_code
def yX6_calendarItem : MethodName := ⟨RX6, "calendarItem", "(I)V"⟩
abbrev cX6_pilgrimItem : ByteArray := prog_8_method_77_code
def yX6_pilgrimItem : MethodName := ⟨RX6, "pilgrimItem", "()V"⟩
abbrev cX6_item : ByteArray := prog_8_method_78_code
def yX6_item : MethodName := ⟨RX6, "item", "()V"⟩
abbrev cX6_spring : ByteArray := prog_8_method_79_code
def yX6_spring : MethodName := ⟨RX6, "spring", "()I"⟩
abbrev cX6_isOne : ByteArray := prog_8_method_80_code
def yX6_isOne : MethodName := ⟨RX6, "isOne", "(I)Z"⟩
abbrev cX6_sheet : ByteArray := prog_8_method_81_code
def yX6_sheet : MethodName := ⟨RX6, "sheet", "(III)I"⟩
abbrev cX6_narrowed : ByteArray := prog_8_method_82_code
def yX6_narrowed : MethodName := ⟨RX6, "narrowed", "(IJ)J"⟩
abbrev cX6_wrongSheet : ByteArray := prog_8_method_83_code
def yX6_wrongSheet : MethodName := ⟨RX6, "wrongSheet", "(I)I"⟩
abbrev cX6_write : ByteArray := prog_8_method_84_code
def yX6_write : MethodName := ⟨RX6, "write", "(IIJ)J"⟩
abbrev cX6_copy : ByteArray := prog_8_method_85_code
def yX6_copy : MethodName := ⟨RX6, "copy", "(IIIII)I"⟩
abbrev cX6_lays : ByteArray := prog_8_method_86_code
def yX6_lays : MethodName := ⟨RX6, "lays", "(I)I"⟩
abbrev cX6_wrongBook : ByteArray := prog_8_method_87_code
def yX6_wrongBook : MethodName := ⟨RX6, "wrongBook", "(II)I"⟩
abbrev cX6_book : ByteArray := prog_8_method_88_code
def yX6_book : MethodName := ⟨RX6, "book", "(II)I"⟩
abbrev cX6_isBook : ByteArray := prog_8_method_89_code
def yX6_isBook : MethodName := ⟨RX6, "isBook", "(II)Z"⟩
abbrev cX6_read : ByteArray := prog_8_method_90_code
def yX6_read : MethodName := ⟨RX6, "read", "(II)I"⟩
abbrev cX6_image : ByteArray := prog_8_method_91_code
def yX6_image : MethodName := ⟨RX6, "image", "()I"⟩
abbrev cX6_undo : ByteArray := prog_8_method_92_code
def yX6_undo : MethodName := ⟨RX6, "undo", "()I"⟩
abbrev cX6_tear : ByteArray := prog_8_method_93_code
def yX6_tear : MethodName := ⟨RX6, "tear", "()I"⟩
abbrev cX6_count : ByteArray := prog_8_method_94_code
def yX6_count : MethodName := ⟨RX6, "count", "(I)I"⟩
abbrev cX6_status : ByteArray := prog_8_method_95_code
def yX6_status : MethodName := ⟨RX6, "status", "(I)I"⟩
def RJ6 : String := "java/lang/Integer"
def TJ6 : u_T := fun k => match k with
  | _ => ("", "", "", false)
def tyJ6 : Nat → FieldType := fun k => match k with
  | _ => .int
abbrev wsJ60 : List Cond := u_ws RJ6 TJ6 0
theorem nmJ6 : ∀ a, a < 0 → ∀ b, b < 0 → a ≠ b → (TJ6 a).2.1 ≠ (TJ6 b).2.1 := by decide +kernel
theorem tyJ6_ok : ∀ k, k < 0 → parseFieldDescriptor (TJ6 k).2.2.1 = some (tyJ6 k) := by decide +kernel
abbrev cJ6_bitCount_0f7a4 : ByteArray := prog_9_method_49_code
def yJ6_bitCount_0f7a4 : MethodName := ⟨RJ6, "bitCount", "(I)I"⟩
def RJ9 : String := "java/lang/Math"
def TJ9 : u_T := fun k => match k with
  | _ => ("", "", "", false)
def tyJ9 : Nat → FieldType := fun k => match k with
  | _ => .int
abbrev wsJ90 : List Cond := u_ws RJ9 TJ9 0
theorem nmJ9 : ∀ a, a < 0 → ∀ b, b < 0 → a ≠ b → (TJ9 a).2.1 ≠ (TJ9 b).2.1 := by decide +kernel
theorem tyJ9_ok : ∀ k, k < 0 → parseFieldDescriptor (TJ9 k).2.2.1 = some (tyJ9 k) := by decide +kernel
abbrev cJ9_max_7cf53 : ByteArray := prog_10_method_65_code
def yJ9_max_7cf53 : MethodName := ⟨RJ9, "max", "(II)I"⟩
abbrev cJ9_min_7cf53 : ByteArray := prog_10_method_69_code
def yJ9_min_7cf53 : MethodName := ⟨RJ9, "min", "(II)I"⟩
def RJ0 : String := "java/lang/String"
def TJ0 : u_T := fun k => match k with
  | _ => ("", "", "", false)
def tyJ0 : Nat → FieldType := fun k => match k with
  | _ => .int
abbrev wsJ00 : List Cond := u_ws RJ0 TJ0 0
theorem nmJ0 : ∀ a, a < 0 → ∀ b, b < 0 → a ≠ b → (TJ0 a).2.1 ≠ (TJ0 b).2.1 := by decide +kernel
theorem tyJ0_ok : ∀ k, k < 0 → parseFieldDescriptor (TJ0 k).2.2.1 = some (tyJ0 k) := by decide +kernel
abbrev cJ0_length_8abf5 : ByteArray := prog_11_method_54_code
def yJ0_length_8abf5 : MethodName := ⟨RJ0, "length", "()I"⟩
abbrev cJ0_charAt_5068e : ByteArray := prog_11_method_56_code
def yJ0_charAt_5068e : MethodName := ⟨RJ0, "charAt", "(I)C"⟩
abbrev cJ0_coder_7d493 : ByteArray := prog_11_method_152_code
def yJ0_coder_7d493 : MethodName := ⟨RJ0, "coder", "()B"⟩
abbrev cJ0_isLatin1_aae02 : ByteArray := prog_11_method_154_code
def yJ0_isLatin1_aae02 : MethodName := ⟨RJ0, "isLatin1", "()Z"⟩
abbrev cJ0_checkIndex_df160 : ByteArray := prog_11_method_155_code
def yJ0_checkIndex_df160 : MethodName := ⟨RJ0, "checkIndex", "(II)V"⟩
def RJ1 : String := "java/lang/StringLatin1"
def TJ1 : u_T := fun k => match k with
  | _ => ("", "", "", false)
def tyJ1 : Nat → FieldType := fun k => match k with
  | _ => .int
abbrev wsJ10 : List Cond := u_ws RJ1 TJ1 0
theorem nmJ1 : ∀ a, a < 0 → ∀ b, b < 0 → a ≠ b → (TJ1 a).2.1 ≠ (TJ1 b).2.1 := by decide +kernel
theorem tyJ1_ok : ∀ k, k < 0 → parseFieldDescriptor (TJ1 k).2.2.1 = some (tyJ1 k) := by decide +kernel
abbrev cJ1_charAt_3b067 : ByteArray := prog_12_method_2_code
def yJ1_charAt_3b067 : MethodName := ⟨RJ1, "charAt", "([BI)C"⟩
def RJ2 : String := "java/lang/StringUTF16"
def TJ2 : u_T := fun k => match k with
  | _ => ("", "", "", false)
def tyJ2 : Nat → FieldType := fun k => match k with
  | _ => .int
abbrev wsJ20 : List Cond := u_ws RJ2 TJ2 0
theorem nmJ2 : ∀ a, a < 0 → ∀ b, b < 0 → a ≠ b → (TJ2 a).2.1 ≠ (TJ2 b).2.1 := by decide +kernel
theorem tyJ2_ok : ∀ k, k < 0 → parseFieldDescriptor (TJ2 k).2.2.1 = some (tyJ2 k) := by decide +kernel
abbrev cJ2_getChar_3b067 : ByteArray := prog_13_method_5_code
def yJ2_getChar_3b067 : MethodName := ⟨RJ2, "getChar", "([BI)C"⟩
abbrev cJ2_length_9d52b : ByteArray := prog_13_method_6_code
def yJ2_length_9d52b : MethodName := ⟨RJ2, "length", "([B)I"⟩
abbrev cJ2_charAt_3b067 : ByteArray := prog_13_method_83_code
def yJ2_charAt_3b067 : MethodName := ⟨RJ2, "charAt", "([BI)C"⟩
abbrev cJ2_checkIndex_2214a : ByteArray := prog_13_method_91_code
def yJ2_checkIndex_2214a : MethodName := ⟨RJ2, "checkIndex", "(I[B)V"⟩
def RJ10 : String := "java/lang/System"
def TJ10 : u_T := fun k => match k with
  | _ => ("", "", "", false)
def tyJ10 : Nat → FieldType := fun k => match k with
  | _ => .int
abbrev wsJ100 : List Cond := u_ws RJ10 TJ10 0
theorem nmJ10 : ∀ a, a < 0 → ∀ b, b < 0 → a ≠ b → (TJ10 a).2.1 ≠ (TJ10 b).2.1 := by decide +kernel
theorem tyJ10_ok : ∀ k, k < 0 → parseFieldDescriptor (TJ10 k).2.2.1 = some (tyJ10 k) := by decide +kernel
def RJ3 : String := "jdk/internal/util/Preconditions"
def TJ3 : u_T := fun k => match k with
  | _ => ("", "", "", false)
def tyJ3 : Nat → FieldType := fun k => match k with
  | _ => .int
abbrev wsJ30 : List Cond := u_ws RJ3 TJ3 0
theorem nmJ3 : ∀ a, a < 0 → ∀ b, b < 0 → a ≠ b → (TJ3 a).2.1 ≠ (TJ3 b).2.1 := by decide +kernel
theorem tyJ3_ok : ∀ k, k < 0 → parseFieldDescriptor (TJ3 k).2.2.1 = some (tyJ3 k) := by decide +kernel
abbrev cJ3_checkIndex_8e157 : ByteArray := prog_15_method_11_code
def yJ3_checkIndex_8e157 : MethodName := ⟨RJ3, "checkIndex", "(IILjava/util/function/BiFunction;)I"⟩
def RL : String := "EvenSpringLaw"
abbrev cL_law : ByteArray := code
def yL_law : MethodName := ⟨RL, "law", "([I)Z"⟩
abbrev vwCl : List vw_C := [(RX0, TX0, 1), (RX1, TX1, 3), (RX2, TX2, 3), (RX3, TX3, 9), (RX4, TX4, 7), (RX5, TX5, 9), (RX6, TX6, 16)]
end
section
/-! printed: decode rows -/
theorem dX0_init_0 : decode cX0_init 0 = .ok (.aload_n 0, 1) := by decide +kernel
theorem dX0_init_1 : decode cX0_init 1 = .ok (.invokespecial 3, 3) := by decide +kernel
theorem dX0_init_4 : decode cX0_init 4 = .ok (.aload_n 0, 1) := by decide +kernel
theorem dX0_init_5 : decode cX0_init 5 = .ok (.iconst 5, 1) := by decide +kernel
theorem dX0_init_6 : decode cX0_init 6 = .ok (.newarray .int, 2) := by decide +kernel
theorem dX0_init_8 : decode cX0_init 8 = .ok (.putfield 11, 3) := by decide +kernel
theorem dX0_init_11 : decode cX0_init 11 = .ok (.return_, 1) := by decide +kernel
theorem dX0_isField_0 : decode cX0_isField 0 = .ok (.iload_n 0, 1) := by decide +kernel
theorem dX0_isField_1 : decode cX0_isField 1 = .ok (.ifCond .lt 12, 3) := by decide +kernel
theorem dX0_isField_4 : decode cX0_isField 4 = .ok (.iload_n 0, 1) := by decide +kernel
theorem dX0_isField_5 : decode cX0_isField 5 = .ok (.iconst 5, 1) := by decide +kernel
theorem dX0_isField_6 : decode cX0_isField 6 = .ok (.if_icmp .ge 7, 3) := by decide +kernel
theorem dX0_isField_9 : decode cX0_isField 9 = .ok (.iconst 1, 1) := by decide +kernel
theorem dX0_isField_10 : decode cX0_isField 10 = .ok (.goto 4, 3) := by decide +kernel
theorem dX0_isField_13 : decode cX0_isField 13 = .ok (.iconst 0, 1) := by decide +kernel
theorem dX0_isField_14 : decode cX0_isField 14 = .ok (.ireturn, 1) := by decide +kernel
theorem dX0_allows_0 : decode cX0_allows 0 = .ok (.iload_n 0, 1) := by decide +kernel
theorem dX0_allows_1 : decode cX0_allows 1 = .ok (.invokestatic 15, 3) := by decide +kernel
theorem dX0_allows_4 : decode cX0_allows 4 = .ok (.ifCond .eq 25, 3) := by decide +kernel
theorem dX0_allows_7 : decode cX0_allows 7 = .ok (.iload_n 1, 1) := by decide +kernel
theorem dX0_allows_8 : decode cX0_allows 8 = .ok (.getstatic 19, 3) := by decide +kernel
theorem dX0_allows_11 : decode cX0_allows 11 = .ok (.iload_n 0, 1) := by decide +kernel
theorem dX0_allows_12 : decode cX0_allows 12 = .ok (.iaload, 1) := by decide +kernel
theorem dX0_allows_13 : decode cX0_allows 13 = .ok (.if_icmp .lt 16, 3) := by decide +kernel
theorem dX0_allows_16 : decode cX0_allows 16 = .ok (.iload_n 1, 1) := by decide +kernel
theorem dX0_allows_17 : decode cX0_allows 17 = .ok (.getstatic 22, 3) := by decide +kernel
theorem dX0_allows_20 : decode cX0_allows 20 = .ok (.iload_n 0, 1) := by decide +kernel
theorem dX0_allows_21 : decode cX0_allows 21 = .ok (.iaload, 1) := by decide +kernel
theorem dX0_allows_22 : decode cX0_allows 22 = .ok (.if_icmp .gt 7, 3) := by decide +kernel
theorem dX0_allows_25 : decode cX0_allows 25 = .ok (.iconst 1, 1) := by decide +kernel
theorem dX0_allows_26 : decode cX0_allows 26 = .ok (.goto 4, 3) := by decide +kernel
theorem dX0_allows_29 : decode cX0_allows 29 = .ok (.iconst 0, 1) := by decide +kernel
theorem dX0_allows_30 : decode cX0_allows 30 = .ok (.ireturn, 1) := by decide +kernel
theorem dX0_least_0 : decode cX0_least 0 = .ok (.iload_n 0, 1) := by decide +kernel
theorem dX0_least_1 : decode cX0_least 1 = .ok (.invokestatic 15, 3) := by decide +kernel
theorem dX0_least_4 : decode cX0_least 4 = .ok (.ifCond .eq 11, 3) := by decide +kernel
theorem dX0_least_7 : decode cX0_least 7 = .ok (.getstatic 19, 3) := by decide +kernel
theorem dX0_least_10 : decode cX0_least 10 = .ok (.iload_n 0, 1) := by decide +kernel
theorem dX0_least_11 : decode cX0_least 11 = .ok (.iaload, 1) := by decide +kernel
theorem dX0_least_12 : decode cX0_least 12 = .ok (.goto 4, 3) := by decide +kernel
theorem dX0_least_15 : decode cX0_least 15 = .ok (.iconst 0, 1) := by decide +kernel
theorem dX0_least_16 : decode cX0_least 16 = .ok (.ireturn, 1) := by decide +kernel
theorem dX0_greatest_0 : decode cX0_greatest 0 = .ok (.iload_n 0, 1) := by decide +kernel
theorem dX0_greatest_1 : decode cX0_greatest 1 = .ok (.invokestatic 15, 3) := by decide +kernel
theorem dX0_greatest_4 : decode cX0_greatest 4 = .ok (.ifCond .eq 11, 3) := by decide +kernel
theorem dX0_greatest_7 : decode cX0_greatest 7 = .ok (.getstatic 22, 3) := by decide +kernel
theorem dX0_greatest_10 : decode cX0_greatest 10 = .ok (.iload_n 0, 1) := by decide +kernel
theorem dX0_greatest_11 : decode cX0_greatest 11 = .ok (.iaload, 1) := by decide +kernel
theorem dX0_greatest_12 : decode cX0_greatest 12 = .ok (.goto 4, 3) := by decide +kernel
theorem dX0_greatest_15 : decode cX0_greatest 15 = .ok (.iconst 0, 1) := by decide +kernel
theorem dX0_greatest_16 : decode cX0_greatest 16 = .ok (.ireturn, 1) := by decide +kernel
theorem dX0_startAs_0 : decode cX0_startAs 0 = .ok (.getstatic 25, 3) := by decide +kernel
theorem dX0_startAs_3 : decode cX0_startAs 3 = .ok (.iconst 0, 1) := by decide +kernel
theorem dX0_startAs_4 : decode cX0_startAs 4 = .ok (.aload_n 0, 1) := by decide +kernel
theorem dX0_startAs_5 : decode cX0_startAs 5 = .ok (.getfield 11, 3) := by decide +kernel
theorem dX0_startAs_8 : decode cX0_startAs 8 = .ok (.iconst 0, 1) := by decide +kernel
theorem dX0_startAs_9 : decode cX0_startAs 9 = .ok (.iconst 5, 1) := by decide +kernel
theorem dX0_startAs_10 : decode cX0_startAs 10 = .ok (.invokestatic 28, 3) := by decide +kernel
theorem dX0_startAs_13 : decode cX0_startAs 13 = .ok (.aload_n 0, 1) := by decide +kernel
theorem dX0_startAs_14 : decode cX0_startAs 14 = .ok (.getfield 11, 3) := by decide +kernel
theorem dX0_startAs_17 : decode cX0_startAs 17 = .ok (.iconst 0, 1) := by decide +kernel
theorem dX0_startAs_18 : decode cX0_startAs 18 = .ok (.iload_n 1, 1) := by decide +kernel
theorem dX0_startAs_19 : decode cX0_startAs 19 = .ok (.iastore, 1) := by decide +kernel
theorem dX0_startAs_20 : decode cX0_startAs 20 = .ok (.return_, 1) := by decide +kernel
theorem dX0_become_0 : decode cX0_become 0 = .ok (.aload_n 1, 1) := by decide +kernel
theorem dX0_become_1 : decode cX0_become 1 = .ok (.getfield 11, 3) := by decide +kernel
theorem dX0_become_4 : decode cX0_become 4 = .ok (.iconst 0, 1) := by decide +kernel
theorem dX0_become_5 : decode cX0_become 5 = .ok (.aload_n 0, 1) := by decide +kernel
theorem dX0_become_6 : decode cX0_become 6 = .ok (.getfield 11, 3) := by decide +kernel
theorem dX0_become_9 : decode cX0_become 9 = .ok (.iconst 0, 1) := by decide +kernel
theorem dX0_become_10 : decode cX0_become 10 = .ok (.iconst 5, 1) := by decide +kernel
theorem dX0_become_11 : decode cX0_become 11 = .ok (.invokestatic 28, 3) := by decide +kernel
theorem dX0_become_14 : decode cX0_become 14 = .ok (.return_, 1) := by decide +kernel
theorem dX0_value_0 : decode cX0_value 0 = .ok (.iload_n 1, 1) := by decide +kernel
theorem dX0_value_1 : decode cX0_value 1 = .ok (.invokestatic 15, 3) := by decide +kernel
theorem dX0_value_4 : decode cX0_value 4 = .ok (.ifCond .eq 12, 3) := by decide +kernel
theorem dX0_value_7 : decode cX0_value 7 = .ok (.aload_n 0, 1) := by decide +kernel
theorem dX0_value_8 : decode cX0_value 8 = .ok (.getfield 11, 3) := by decide +kernel
theorem dX0_value_11 : decode cX0_value 11 = .ok (.iload_n 1, 1) := by decide +kernel
theorem dX0_value_12 : decode cX0_value 12 = .ok (.iaload, 1) := by decide +kernel
theorem dX0_value_13 : decode cX0_value 13 = .ok (.goto 4, 3) := by decide +kernel
theorem dX0_value_16 : decode cX0_value 16 = .ok (.iconst 0, 1) := by decide +kernel
theorem dX0_value_17 : decode cX0_value 17 = .ok (.ireturn, 1) := by decide +kernel
theorem dX0_change_0 : decode cX0_change 0 = .ok (.iload_n 1, 1) := by decide +kernel
theorem dX0_change_1 : decode cX0_change 1 = .ok (.iload_n 2, 1) := by decide +kernel
theorem dX0_change_2 : decode cX0_change 2 = .ok (.invokestatic 34, 3) := by decide +kernel
theorem dX0_change_5 : decode cX0_change 5 = .ok (.ifCond .ne 5, 3) := by decide +kernel
theorem dX0_change_8 : decode cX0_change 8 = .ok (.iconst 0, 1) := by decide +kernel
theorem dX0_change_9 : decode cX0_change 9 = .ok (.ireturn, 1) := by decide +kernel
theorem dX0_change_10 : decode cX0_change 10 = .ok (.aload_n 0, 1) := by decide +kernel
theorem dX0_change_11 : decode cX0_change 11 = .ok (.getfield 11, 3) := by decide +kernel
theorem dX0_change_14 : decode cX0_change 14 = .ok (.iload_n 1, 1) := by decide +kernel
theorem dX0_change_15 : decode cX0_change 15 = .ok (.iaload, 1) := by decide +kernel
theorem dX0_change_16 : decode cX0_change 16 = .ok (.istore_n 3, 1) := by decide +kernel
theorem dX0_change_17 : decode cX0_change 17 = .ok (.aload_n 0, 1) := by decide +kernel
theorem dX0_change_18 : decode cX0_change 18 = .ok (.getfield 11, 3) := by decide +kernel
theorem dX0_change_21 : decode cX0_change 21 = .ok (.iload_n 1, 1) := by decide +kernel
theorem dX0_change_22 : decode cX0_change 22 = .ok (.iload_n 2, 1) := by decide +kernel
theorem dX0_change_23 : decode cX0_change 23 = .ok (.iastore, 1) := by decide +kernel
theorem dX0_change_24 : decode cX0_change 24 = .ok (.iload_n 3, 1) := by decide +kernel
theorem dX0_change_25 : decode cX0_change 25 = .ok (.ireturn, 1) := by decide +kernel
theorem dX0_isOfKind_0 : decode cX0_isOfKind 0 = .ok (.aload_n 0, 1) := by decide +kernel
theorem dX0_isOfKind_1 : decode cX0_isOfKind 1 = .ok (.getfield 11, 3) := by decide +kernel
theorem dX0_isOfKind_4 : decode cX0_isOfKind 4 = .ok (.iconst 0, 1) := by decide +kernel
theorem dX0_isOfKind_5 : decode cX0_isOfKind 5 = .ok (.iaload, 1) := by decide +kernel
theorem dX0_isOfKind_6 : decode cX0_isOfKind 6 = .ok (.istore_n 2, 1) := by decide +kernel
theorem dX0_isOfKind_7 : decode cX0_isOfKind 7 = .ok (.iload_n 2, 1) := by decide +kernel
theorem dX0_isOfKind_8 : decode cX0_isOfKind 8 = .ok (.iload_n 1, 1) := by decide +kernel
theorem dX0_isOfKind_9 : decode cX0_isOfKind 9 = .ok (.if_icmp .eq 7, 3) := by decide +kernel
theorem dX0_isOfKind_12 : decode cX0_isOfKind 12 = .ok (.iload_n 1, 1) := by decide +kernel
theorem dX0_isOfKind_13 : decode cX0_isOfKind 13 = .ok (.ifCond .ne 5, 3) := by decide +kernel
theorem dX0_isOfKind_16 : decode cX0_isOfKind 16 = .ok (.iconst 1, 1) := by decide +kernel
theorem dX0_isOfKind_17 : decode cX0_isOfKind 17 = .ok (.ireturn, 1) := by decide +kernel
theorem dX0_isOfKind_18 : decode cX0_isOfKind 18 = .ok (.iload_n 2, 1) := by decide +kernel
theorem dX0_isOfKind_19 : decode cX0_isOfKind 19 = .ok (.iconst 4, 1) := by decide +kernel
theorem dX0_isOfKind_20 : decode cX0_isOfKind 20 = .ok (.if_icmp .ne 8, 3) := by decide +kernel
theorem dX0_isOfKind_23 : decode cX0_isOfKind 23 = .ok (.iload_n 1, 1) := by decide +kernel
theorem dX0_isOfKind_24 : decode cX0_isOfKind 24 = .ok (.iconst 2, 1) := by decide +kernel
theorem dX0_isOfKind_25 : decode cX0_isOfKind 25 = .ok (.if_icmp .eq 13, 3) := by decide +kernel
theorem dX0_isOfKind_28 : decode cX0_isOfKind 28 = .ok (.iload_n 2, 1) := by decide +kernel
theorem dX0_isOfKind_29 : decode cX0_isOfKind 29 = .ok (.iconst 5, 1) := by decide +kernel
theorem dX0_isOfKind_30 : decode cX0_isOfKind 30 = .ok (.if_icmp .ne 12, 3) := by decide +kernel
theorem dX0_isOfKind_33 : decode cX0_isOfKind 33 = .ok (.iload_n 1, 1) := by decide +kernel
theorem dX0_isOfKind_34 : decode cX0_isOfKind 34 = .ok (.iconst 1, 1) := by decide +kernel
theorem dX0_isOfKind_35 : decode cX0_isOfKind 35 = .ok (.if_icmp .ne 7, 3) := by decide +kernel
theorem dX0_isOfKind_38 : decode cX0_isOfKind 38 = .ok (.iconst 1, 1) := by decide +kernel
theorem dX0_isOfKind_39 : decode cX0_isOfKind 39 = .ok (.goto 4, 3) := by decide +kernel
theorem dX0_isOfKind_42 : decode cX0_isOfKind 42 = .ok (.iconst 0, 1) := by decide +kernel
theorem dX0_isOfKind_43 : decode cX0_isOfKind 43 = .ok (.ireturn, 1) := by decide +kernel
theorem dX0_length_0 : decode cX0_length 0 = .ok (.aload_n 0, 1) := by decide +kernel
theorem dX0_length_1 : decode cX0_length 1 = .ok (.getfield 11, 3) := by decide +kernel
theorem dX0_length_4 : decode cX0_length 4 = .ok (.iconst 2, 1) := by decide +kernel
theorem dX0_length_5 : decode cX0_length 5 = .ok (.iaload, 1) := by decide +kernel
theorem dX0_length_6 : decode cX0_length 6 = .ok (.iconst 1, 1) := by decide +kernel
theorem dX0_length_7 : decode cX0_length 7 = .ok (.if_icmp .ge 7, 3) := by decide +kernel
theorem dX0_length_10 : decode cX0_length 10 = .ok (.iconst 1, 1) := by decide +kernel
theorem dX0_length_11 : decode cX0_length 11 = .ok (.goto 9, 3) := by decide +kernel
theorem dX0_length_14 : decode cX0_length 14 = .ok (.aload_n 0, 1) := by decide +kernel
theorem dX0_length_15 : decode cX0_length 15 = .ok (.getfield 11, 3) := by decide +kernel
theorem dX0_length_18 : decode cX0_length 18 = .ok (.iconst 2, 1) := by decide +kernel
theorem dX0_length_19 : decode cX0_length 19 = .ok (.iaload, 1) := by decide +kernel
theorem dX0_length_20 : decode cX0_length 20 = .ok (.ireturn, 1) := by decide +kernel
theorem dX0_runsAt_0 : decode cX0_runsAt 0 = .ok (.iload_n 1, 1) := by decide +kernel
theorem dX0_runsAt_1 : decode cX0_runsAt 1 = .ok (.aload_n 0, 1) := by decide +kernel
theorem dX0_runsAt_2 : decode cX0_runsAt 2 = .ok (.getfield 11, 3) := by decide +kernel
theorem dX0_runsAt_5 : decode cX0_runsAt 5 = .ok (.iconst 1, 1) := by decide +kernel
theorem dX0_runsAt_6 : decode cX0_runsAt 6 = .ok (.iaload, 1) := by decide +kernel
theorem dX0_runsAt_7 : decode cX0_runsAt 7 = .ok (.iadd, 1) := by decide +kernel
theorem dX0_runsAt_8 : decode cX0_runsAt 8 = .ok (.istore_n 2, 1) := by decide +kernel
theorem dX0_runsAt_9 : decode cX0_runsAt 9 = .ok (.aload_n 0, 1) := by decide +kernel
theorem dX0_runsAt_10 : decode cX0_runsAt 10 = .ok (.getfield 11, 3) := by decide +kernel
theorem dX0_runsAt_13 : decode cX0_runsAt 13 = .ok (.iconst 0, 1) := by decide +kernel
theorem dX0_runsAt_14 : decode cX0_runsAt 14 = .ok (.iaload, 1) := by decide +kernel
theorem dX0_runsAt_15 : decode cX0_runsAt 15 = .ok (.tableswitch 68 2 5 #[29, 35, 42, 61], 29) := by decide +kernel
theorem dX0_runsAt_44 : decode cX0_runsAt 44 = .ok (.aload_n 0, 1) := by decide +kernel
theorem dX0_runsAt_45 : decode cX0_runsAt 45 = .ok (.iload_n 1, 1) := by decide +kernel
theorem dX0_runsAt_46 : decode cX0_runsAt 46 = .ok (.invokevirtual 38, 3) := by decide +kernel
theorem dX0_runsAt_49 : decode cX0_runsAt 49 = .ok (.ireturn, 1) := by decide +kernel
theorem dX0_runsAt_50 : decode cX0_runsAt 50 = .ok (.iload_n 2, 1) := by decide +kernel
theorem dX0_runsAt_51 : decode cX0_runsAt 51 = .ok (.iload_n 1, 1) := by decide +kernel
theorem dX0_runsAt_52 : decode cX0_runsAt 52 = .ok (.bipush 7, 2) := by decide +kernel
theorem dX0_runsAt_54 : decode cX0_runsAt 54 = .ok (.idiv, 1) := by decide +kernel
theorem dX0_runsAt_55 : decode cX0_runsAt 55 = .ok (.iadd, 1) := by decide +kernel
theorem dX0_runsAt_56 : decode cX0_runsAt 56 = .ok (.ireturn, 1) := by decide +kernel
theorem dX0_runsAt_57 : decode cX0_runsAt 57 = .ok (.aload_n 0, 1) := by decide +kernel
theorem dX0_runsAt_58 : decode cX0_runsAt 58 = .ok (.iload_n 1, 1) := by decide +kernel
theorem dX0_runsAt_59 : decode cX0_runsAt 59 = .ok (.invokevirtual 38, 3) := by decide +kernel
theorem dX0_runsAt_62 : decode cX0_runsAt 62 = .ok (.aload_n 0, 1) := by decide +kernel
theorem dX0_runsAt_63 : decode cX0_runsAt 63 = .ok (.iload_n 1, 1) := by decide +kernel
theorem dX0_runsAt_64 : decode cX0_runsAt 64 = .ok (.invokevirtual 38, 3) := by decide +kernel
theorem dX0_runsAt_67 : decode cX0_runsAt 67 = .ok (.aload_n 0, 1) := by decide +kernel
theorem dX0_runsAt_68 : decode cX0_runsAt 68 = .ok (.invokevirtual 42, 3) := by decide +kernel
theorem dX0_runsAt_71 : decode cX0_runsAt 71 = .ok (.idiv, 1) := by decide +kernel
theorem dX0_runsAt_72 : decode cX0_runsAt 72 = .ok (.iconst 4, 1) := by decide +kernel
theorem dX0_runsAt_73 : decode cX0_runsAt 73 = .ok (.idiv, 1) := by decide +kernel
theorem dX0_runsAt_74 : decode cX0_runsAt 74 = .ok (.iadd, 1) := by decide +kernel
theorem dX0_runsAt_75 : decode cX0_runsAt 75 = .ok (.ireturn, 1) := by decide +kernel
theorem dX0_runsAt_76 : decode cX0_runsAt 76 = .ok (.iload_n 2, 1) := by decide +kernel
theorem dX0_runsAt_77 : decode cX0_runsAt 77 = .ok (.iload_n 1, 1) := by decide +kernel
theorem dX0_runsAt_78 : decode cX0_runsAt 78 = .ok (.invokestatic 46, 3) := by decide +kernel
theorem dX0_runsAt_81 : decode cX0_runsAt 81 = .ok (.isub, 1) := by decide +kernel
theorem dX0_runsAt_82 : decode cX0_runsAt 82 = .ok (.ireturn, 1) := by decide +kernel
theorem dX0_runsAt_83 : decode cX0_runsAt 83 = .ok (.iload_n 2, 1) := by decide +kernel
theorem dX0_runsAt_84 : decode cX0_runsAt 84 = .ok (.ireturn, 1) := by decide +kernel
theorem dX0_runsAsNew_0 : decode cX0_runsAsNew 0 = .ok (.iload_n 1, 1) := by decide +kernel
theorem dX0_runsAsNew_1 : decode cX0_runsAsNew 1 = .ok (.aload_n 0, 1) := by decide +kernel
theorem dX0_runsAsNew_2 : decode cX0_runsAsNew 2 = .ok (.getfield 11, 3) := by decide +kernel
theorem dX0_runsAsNew_5 : decode cX0_runsAsNew 5 = .ok (.iconst 1, 1) := by decide +kernel
theorem dX0_runsAsNew_6 : decode cX0_runsAsNew 6 = .ok (.iaload, 1) := by decide +kernel
theorem dX0_runsAsNew_7 : decode cX0_runsAsNew 7 = .ok (.iadd, 1) := by decide +kernel
theorem dX0_runsAsNew_8 : decode cX0_runsAsNew 8 = .ok (.iload_n 1, 1) := by decide +kernel
theorem dX0_runsAsNew_9 : decode cX0_runsAsNew 9 = .ok (.aload_n 0, 1) := by decide +kernel
theorem dX0_runsAsNew_10 : decode cX0_runsAsNew 10 = .ok (.getfield 11, 3) := by decide +kernel
theorem dX0_runsAsNew_13 : decode cX0_runsAsNew 13 = .ok (.iconst 4, 1) := by decide +kernel
theorem dX0_runsAsNew_14 : decode cX0_runsAsNew 14 = .ok (.iaload, 1) := by decide +kernel
theorem dX0_runsAsNew_15 : decode cX0_runsAsNew 15 = .ok (.if_icmp .lt 12, 3) := by decide +kernel
theorem dX0_runsAsNew_18 : decode cX0_runsAsNew 18 = .ok (.aload_n 0, 1) := by decide +kernel
theorem dX0_runsAsNew_19 : decode cX0_runsAsNew 19 = .ok (.getfield 11, 3) := by decide +kernel
theorem dX0_runsAsNew_22 : decode cX0_runsAsNew 22 = .ok (.iconst 3, 1) := by decide +kernel
theorem dX0_runsAsNew_23 : decode cX0_runsAsNew 23 = .ok (.iaload, 1) := by decide +kernel
theorem dX0_runsAsNew_24 : decode cX0_runsAsNew 24 = .ok (.goto 4, 3) := by decide +kernel
theorem dX0_runsAsNew_27 : decode cX0_runsAsNew 27 = .ok (.iconst 0, 1) := by decide +kernel
theorem dX0_runsAsNew_28 : decode cX0_runsAsNew 28 = .ok (.iadd, 1) := by decide +kernel
theorem dX0_runsAsNew_29 : decode cX0_runsAsNew 29 = .ok (.ireturn, 1) := by decide +kernel
theorem dX0_jugDaysUpTo_0 : decode cX0_jugDaysUpTo 0 = .ok (.iload_n 0, 1) := by decide +kernel
theorem dX0_jugDaysUpTo_1 : decode cX0_jugDaysUpTo 1 = .ok (.bipush 7, 2) := by decide +kernel
theorem dX0_jugDaysUpTo_3 : decode cX0_jugDaysUpTo 3 = .ok (.iadd, 1) := by decide +kernel
theorem dX0_jugDaysUpTo_4 : decode cX0_jugDaysUpTo 4 = .ok (.iconst 2, 1) := by decide +kernel
theorem dX0_jugDaysUpTo_5 : decode cX0_jugDaysUpTo 5 = .ok (.isub, 1) := by decide +kernel
theorem dX0_jugDaysUpTo_6 : decode cX0_jugDaysUpTo 6 = .ok (.bipush 7, 2) := by decide +kernel
theorem dX0_jugDaysUpTo_8 : decode cX0_jugDaysUpTo 8 = .ok (.idiv, 1) := by decide +kernel
theorem dX0_jugDaysUpTo_9 : decode cX0_jugDaysUpTo 9 = .ok (.ireturn, 1) := by decide +kernel
theorem dX0_dateAt_0 : decode cX0_dateAt 0 = .ok (.aload_n 0, 1) := by decide +kernel
theorem dX0_dateAt_1 : decode cX0_dateAt 1 = .ok (.iload_n 1, 1) := by decide +kernel
theorem dX0_dateAt_2 : decode cX0_dateAt 2 = .ok (.invokevirtual 49, 3) := by decide +kernel
theorem dX0_dateAt_5 : decode cX0_dateAt 5 = .ok (.aload_n 0, 1) := by decide +kernel
theorem dX0_dateAt_6 : decode cX0_dateAt 6 = .ok (.invokevirtual 42, 3) := by decide +kernel
theorem dX0_dateAt_9 : decode cX0_dateAt 9 = .ok (.irem, 1) := by decide +kernel
theorem dX0_dateAt_10 : decode cX0_dateAt 10 = .ok (.iconst 1, 1) := by decide +kernel
theorem dX0_dateAt_11 : decode cX0_dateAt 11 = .ok (.iadd, 1) := by decide +kernel
theorem dX0_dateAt_12 : decode cX0_dateAt 12 = .ok (.ireturn, 1) := by decide +kernel
theorem dX0_monthAt_0 : decode cX0_monthAt 0 = .ok (.aload_n 0, 1) := by decide +kernel
theorem dX0_monthAt_1 : decode cX0_monthAt 1 = .ok (.iload_n 1, 1) := by decide +kernel
theorem dX0_monthAt_2 : decode cX0_monthAt 2 = .ok (.invokevirtual 49, 3) := by decide +kernel
theorem dX0_monthAt_5 : decode cX0_monthAt 5 = .ok (.aload_n 0, 1) := by decide +kernel
theorem dX0_monthAt_6 : decode cX0_monthAt 6 = .ok (.invokevirtual 42, 3) := by decide +kernel
theorem dX0_monthAt_9 : decode cX0_monthAt 9 = .ok (.idiv, 1) := by decide +kernel
theorem dX0_monthAt_10 : decode cX0_monthAt 10 = .ok (.ireturn, 1) := by decide +kernel
theorem dX0_isHoly_0 : decode cX0_isHoly 0 = .ok (.aload_n 0, 1) := by decide +kernel
theorem dX0_isHoly_1 : decode cX0_isHoly 1 = .ok (.iload_n 1, 1) := by decide +kernel
theorem dX0_isHoly_2 : decode cX0_isHoly 2 = .ok (.invokevirtual 49, 3) := by decide +kernel
theorem dX0_isHoly_5 : decode cX0_isHoly 5 = .ok (.istore_n 2, 1) := by decide +kernel
theorem dX0_isHoly_6 : decode cX0_isHoly 6 = .ok (.aload_n 0, 1) := by decide +kernel
theorem dX0_isHoly_7 : decode cX0_isHoly 7 = .ok (.invokevirtual 42, 3) := by decide +kernel
theorem dX0_isHoly_10 : decode cX0_isHoly 10 = .ok (.istore_n 3, 1) := by decide +kernel
theorem dX0_isHoly_11 : decode cX0_isHoly 11 = .ok (.iload_n 2, 1) := by decide +kernel
theorem dX0_isHoly_12 : decode cX0_isHoly 12 = .ok (.iload_n 3, 1) := by decide +kernel
theorem dX0_isHoly_13 : decode cX0_isHoly 13 = .ok (.irem, 1) := by decide +kernel
theorem dX0_isHoly_14 : decode cX0_isHoly 14 = .ok (.iconst 1, 1) := by decide +kernel
theorem dX0_isHoly_15 : decode cX0_isHoly 15 = .ok (.iadd, 1) := by decide +kernel
theorem dX0_isHoly_16 : decode cX0_isHoly 16 = .ok (.istore 4, 2) := by decide +kernel
theorem dX0_isHoly_18 : decode cX0_isHoly 18 = .ok (.aload_n 0, 1) := by decide +kernel
theorem dX0_isHoly_19 : decode cX0_isHoly 19 = .ok (.getfield 11, 3) := by decide +kernel
theorem dX0_isHoly_22 : decode cX0_isHoly 22 = .ok (.iconst 0, 1) := by decide +kernel
theorem dX0_isHoly_23 : decode cX0_isHoly 23 = .ok (.iaload, 1) := by decide +kernel
theorem dX0_isHoly_24 : decode cX0_isHoly 24 = .ok (.tableswitch 85 3 5 #[28, 45, 64], 28) := by decide +kernel
theorem dX0_isHoly_52 : decode cX0_isHoly 52 = .ok (.iload 4, 2) := by decide +kernel
theorem dX0_isHoly_54 : decode cX0_isHoly 54 = .ok (.iload_n 2, 1) := by decide +kernel
theorem dX0_isHoly_55 : decode cX0_isHoly 55 = .ok (.iload_n 3, 1) := by decide +kernel
theorem dX0_isHoly_56 : decode cX0_isHoly 56 = .ok (.idiv, 1) := by decide +kernel
theorem dX0_isHoly_57 : decode cX0_isHoly 57 = .ok (.iadd, 1) := by decide +kernel
theorem dX0_isHoly_58 : decode cX0_isHoly 58 = .ok (.iconst 2, 1) := by decide +kernel
theorem dX0_isHoly_59 : decode cX0_isHoly 59 = .ok (.irem, 1) := by decide +kernel
theorem dX0_isHoly_60 : decode cX0_isHoly 60 = .ok (.ifCond .ne 7, 3) := by decide +kernel
theorem dX0_isHoly_63 : decode cX0_isHoly 63 = .ok (.iconst 1, 1) := by decide +kernel
theorem dX0_isHoly_64 : decode cX0_isHoly 64 = .ok (.goto 4, 3) := by decide +kernel
theorem dX0_isHoly_67 : decode cX0_isHoly 67 = .ok (.iconst 0, 1) := by decide +kernel
theorem dX0_isHoly_68 : decode cX0_isHoly 68 = .ok (.ireturn, 1) := by decide +kernel
theorem dX0_isHoly_69 : decode cX0_isHoly 69 = .ok (.iload 4, 2) := by decide +kernel
theorem dX0_isHoly_71 : decode cX0_isHoly 71 = .ok (.iconst 2, 1) := by decide +kernel
theorem dX0_isHoly_72 : decode cX0_isHoly 72 = .ok (.irem, 1) := by decide +kernel
theorem dX0_isHoly_73 : decode cX0_isHoly 73 = .ok (.ifCond .eq 9, 3) := by decide +kernel
theorem dX0_isHoly_76 : decode cX0_isHoly 76 = .ok (.iload 4, 2) := by decide +kernel
theorem dX0_isHoly_78 : decode cX0_isHoly 78 = .ok (.iconst 1, 1) := by decide +kernel
theorem dX0_isHoly_79 : decode cX0_isHoly 79 = .ok (.if_icmp .ne 7, 3) := by decide +kernel
theorem dX0_isHoly_82 : decode cX0_isHoly 82 = .ok (.iconst 1, 1) := by decide +kernel
theorem dX0_isHoly_83 : decode cX0_isHoly 83 = .ok (.goto 4, 3) := by decide +kernel
theorem dX0_isHoly_86 : decode cX0_isHoly 86 = .ok (.iconst 0, 1) := by decide +kernel
theorem dX0_isHoly_87 : decode cX0_isHoly 87 = .ok (.ireturn, 1) := by decide +kernel
theorem dX0_isHoly_88 : decode cX0_isHoly 88 = .ok (.iload 4, 2) := by decide +kernel
theorem dX0_isHoly_90 : decode cX0_isHoly 90 = .ok (.iconst 2, 1) := by decide +kernel
theorem dX0_isHoly_91 : decode cX0_isHoly 91 = .ok (.irem, 1) := by decide +kernel
theorem dX0_isHoly_92 : decode cX0_isHoly 92 = .ok (.ifCond .ne 15, 3) := by decide +kernel
theorem dX0_isHoly_95 : decode cX0_isHoly 95 = .ok (.iload_n 1, 1) := by decide +kernel
theorem dX0_isHoly_96 : decode cX0_isHoly 96 = .ok (.bipush 7, 2) := by decide +kernel
theorem dX0_isHoly_98 : decode cX0_isHoly 98 = .ok (.irem, 1) := by decide +kernel
theorem dX0_isHoly_99 : decode cX0_isHoly 99 = .ok (.iconst 2, 1) := by decide +kernel
theorem dX0_isHoly_100 : decode cX0_isHoly 100 = .ok (.if_icmp .eq 7, 3) := by decide +kernel
theorem dX0_isHoly_103 : decode cX0_isHoly 103 = .ok (.iconst 1, 1) := by decide +kernel
theorem dX0_isHoly_104 : decode cX0_isHoly 104 = .ok (.goto 4, 3) := by decide +kernel
theorem dX0_isHoly_107 : decode cX0_isHoly 107 = .ok (.iconst 0, 1) := by decide +kernel
theorem dX0_isHoly_108 : decode cX0_isHoly 108 = .ok (.ireturn, 1) := by decide +kernel
theorem dX0_isHoly_109 : decode cX0_isHoly 109 = .ok (.iload 4, 2) := by decide +kernel
theorem dX0_isHoly_111 : decode cX0_isHoly 111 = .ok (.iconst 2, 1) := by decide +kernel
theorem dX0_isHoly_112 : decode cX0_isHoly 112 = .ok (.irem, 1) := by decide +kernel
theorem dX0_isHoly_113 : decode cX0_isHoly 113 = .ok (.ifCond .ne 7, 3) := by decide +kernel
theorem dX0_isHoly_116 : decode cX0_isHoly 116 = .ok (.iconst 1, 1) := by decide +kernel
theorem dX0_isHoly_117 : decode cX0_isHoly 117 = .ok (.goto 4, 3) := by decide +kernel
theorem dX0_isHoly_120 : decode cX0_isHoly 120 = .ok (.iconst 0, 1) := by decide +kernel
theorem dX0_isHoly_121 : decode cX0_isHoly 121 = .ok (.ireturn, 1) := by decide +kernel
theorem dX1_init_0 : decode cX1_init 0 = .ok (.aload_n 0, 1) := by decide +kernel
theorem dX1_init_1 : decode cX1_init 1 = .ok (.invokespecial 3, 3) := by decide +kernel
theorem dX1_init_4 : decode cX1_init 4 = .ok (.return_, 1) := by decide +kernel
theorem dX1_startWith_0 : decode cX1_startWith 0 = .ok (.aload_n 0, 1) := by decide +kernel
theorem dX1_startWith_1 : decode cX1_startWith 1 = .ok (.iload_n 1, 1) := by decide +kernel
theorem dX1_startWith_2 : decode cX1_startWith 2 = .ok (.putfield 9, 3) := by decide +kernel
theorem dX1_startWith_5 : decode cX1_startWith 5 = .ok (.aload_n 0, 1) := by decide +kernel
theorem dX1_startWith_6 : decode cX1_startWith 6 = .ok (.iload_n 2, 1) := by decide +kernel
theorem dX1_startWith_7 : decode cX1_startWith 7 = .ok (.putfield 15, 3) := by decide +kernel
theorem dX1_startWith_10 : decode cX1_startWith 10 = .ok (.aload_n 0, 1) := by decide +kernel
theorem dX1_startWith_11 : decode cX1_startWith 11 = .ok (.iconst 0, 1) := by decide +kernel
theorem dX1_startWith_12 : decode cX1_startWith 12 = .ok (.putfield 18, 3) := by decide +kernel
theorem dX1_startWith_15 : decode cX1_startWith 15 = .ok (.return_, 1) := by decide +kernel
theorem dX1_become_0 : decode cX1_become 0 = .ok (.aload_n 0, 1) := by decide +kernel
theorem dX1_become_1 : decode cX1_become 1 = .ok (.aload_n 1, 1) := by decide +kernel
theorem dX1_become_2 : decode cX1_become 2 = .ok (.getfield 9, 3) := by decide +kernel
theorem dX1_become_5 : decode cX1_become 5 = .ok (.putfield 9, 3) := by decide +kernel
theorem dX1_become_8 : decode cX1_become 8 = .ok (.aload_n 0, 1) := by decide +kernel
theorem dX1_become_9 : decode cX1_become 9 = .ok (.aload_n 1, 1) := by decide +kernel
theorem dX1_become_10 : decode cX1_become 10 = .ok (.getfield 15, 3) := by decide +kernel
theorem dX1_become_13 : decode cX1_become 13 = .ok (.putfield 15, 3) := by decide +kernel
theorem dX1_become_16 : decode cX1_become 16 = .ok (.aload_n 0, 1) := by decide +kernel
theorem dX1_become_17 : decode cX1_become 17 = .ok (.aload_n 1, 1) := by decide +kernel
theorem dX1_become_18 : decode cX1_become 18 = .ok (.getfield 18, 3) := by decide +kernel
theorem dX1_become_21 : decode cX1_become 21 = .ok (.putfield 18, 3) := by decide +kernel
theorem dX1_become_24 : decode cX1_become 24 = .ok (.return_, 1) := by decide +kernel
theorem dX1_takeWater_0 : decode cX1_takeWater 0 = .ok (.aload_n 0, 1) := by decide +kernel
theorem dX1_takeWater_1 : decode cX1_takeWater 1 = .ok (.iload_n 1, 1) := by decide +kernel
theorem dX1_takeWater_2 : decode cX1_takeWater 2 = .ok (.ifCond .eq 16, 3) := by decide +kernel
theorem dX1_takeWater_5 : decode cX1_takeWater 5 = .ok (.iconst 0, 1) := by decide +kernel
theorem dX1_takeWater_6 : decode cX1_takeWater 6 = .ok (.aload_n 0, 1) := by decide +kernel
theorem dX1_takeWater_7 : decode cX1_takeWater 7 = .ok (.getfield 9, 3) := by decide +kernel
theorem dX1_takeWater_10 : decode cX1_takeWater 10 = .ok (.iload_n 2, 1) := by decide +kernel
theorem dX1_takeWater_11 : decode cX1_takeWater 11 = .ok (.isub, 1) := by decide +kernel
theorem dX1_takeWater_12 : decode cX1_takeWater 12 = .ok (.invokestatic 21, 3) := by decide +kernel
theorem dX1_takeWater_15 : decode cX1_takeWater 15 = .ok (.goto 16, 3) := by decide +kernel
theorem dX1_takeWater_18 : decode cX1_takeWater 18 = .ok (.bipush 99, 2) := by decide +kernel
theorem dX1_takeWater_20 : decode cX1_takeWater 20 = .ok (.aload_n 0, 1) := by decide +kernel
theorem dX1_takeWater_21 : decode cX1_takeWater 21 = .ok (.getfield 9, 3) := by decide +kernel
theorem dX1_takeWater_24 : decode cX1_takeWater 24 = .ok (.iload_n 2, 1) := by decide +kernel
theorem dX1_takeWater_25 : decode cX1_takeWater 25 = .ok (.iconst 2, 1) := by decide +kernel
theorem dX1_takeWater_26 : decode cX1_takeWater 26 = .ok (.idiv, 1) := by decide +kernel
theorem dX1_takeWater_27 : decode cX1_takeWater 27 = .ok (.iadd, 1) := by decide +kernel
theorem dX1_takeWater_28 : decode cX1_takeWater 28 = .ok (.invokestatic 27, 3) := by decide +kernel
theorem dX1_takeWater_31 : decode cX1_takeWater 31 = .ok (.putfield 9, 3) := by decide +kernel
theorem dX1_takeWater_34 : decode cX1_takeWater 34 = .ok (.return_, 1) := by decide +kernel
theorem dX1_takeBath_0 : decode cX1_takeBath 0 = .ok (.aload_n 0, 1) := by decide +kernel
theorem dX1_takeBath_1 : decode cX1_takeBath 1 = .ok (.iload_n 1, 1) := by decide +kernel
theorem dX1_takeBath_2 : decode cX1_takeBath 2 = .ok (.iload_n 2, 1) := by decide +kernel
theorem dX1_takeBath_3 : decode cX1_takeBath 3 = .ok (.invokevirtual 30, 3) := by decide +kernel
theorem dX1_takeBath_6 : decode cX1_takeBath 6 = .ok (.aload_n 0, 1) := by decide +kernel
theorem dX1_takeBath_7 : decode cX1_takeBath 7 = .ok (.sipush 9999, 3) := by decide +kernel
theorem dX1_takeBath_10 : decode cX1_takeBath 10 = .ok (.aload_n 0, 1) := by decide +kernel
theorem dX1_takeBath_11 : decode cX1_takeBath 11 = .ok (.getfield 18, 3) := by decide +kernel
theorem dX1_takeBath_14 : decode cX1_takeBath 14 = .ok (.iconst 1, 1) := by decide +kernel
theorem dX1_takeBath_15 : decode cX1_takeBath 15 = .ok (.iadd, 1) := by decide +kernel
theorem dX1_takeBath_16 : decode cX1_takeBath 16 = .ok (.invokestatic 27, 3) := by decide +kernel
theorem dX1_takeBath_19 : decode cX1_takeBath 19 = .ok (.putfield 18, 3) := by decide +kernel
theorem dX1_takeBath_22 : decode cX1_takeBath 22 = .ok (.return_, 1) := by decide +kernel
theorem dX1_passDay_0 : decode cX1_passDay 0 = .ok (.aload_n 0, 1) := by decide +kernel
theorem dX1_passDay_1 : decode cX1_passDay 1 = .ok (.getfield 9, 3) := by decide +kernel
theorem dX1_passDay_4 : decode cX1_passDay 4 = .ok (.ifCond .le 32, 3) := by decide +kernel
theorem dX1_passDay_7 : decode cX1_passDay 7 = .ok (.aload_n 0, 1) := by decide +kernel
theorem dX1_passDay_8 : decode cX1_passDay 8 = .ok (.getfield 15, 3) := by decide +kernel
theorem dX1_passDay_11 : decode cX1_passDay 11 = .ok (.iconst (-1), 1) := by decide +kernel
theorem dX1_passDay_12 : decode cX1_passDay 12 = .ok (.if_icmp .eq 14, 3) := by decide +kernel
theorem dX1_passDay_15 : decode cX1_passDay 15 = .ok (.iload_n 1, 1) := by decide +kernel
theorem dX1_passDay_16 : decode cX1_passDay 16 = .ok (.aload_n 0, 1) := by decide +kernel
theorem dX1_passDay_17 : decode cX1_passDay 17 = .ok (.getfield 15, 3) := by decide +kernel
theorem dX1_passDay_20 : decode cX1_passDay 20 = .ok (.invokestatic 34, 3) := by decide +kernel
theorem dX1_passDay_23 : decode cX1_passDay 23 = .ok (.ifCond .eq 13, 3) := by decide +kernel
theorem dX1_passDay_26 : decode cX1_passDay 26 = .ok (.aload_n 0, 1) := by decide +kernel
theorem dX1_passDay_27 : decode cX1_passDay 27 = .ok (.iload_n 1, 1) := by decide +kernel
theorem dX1_passDay_28 : decode cX1_passDay 28 = .ok (.iload_n 2, 1) := by decide +kernel
theorem dX1_passDay_29 : decode cX1_passDay 29 = .ok (.invokestatic 34, 3) := by decide +kernel
theorem dX1_passDay_32 : decode cX1_passDay 32 = .ok (.iload_n 3, 1) := by decide +kernel
theorem dX1_passDay_33 : decode cX1_passDay 33 = .ok (.invokevirtual 38, 3) := by decide +kernel
theorem dX1_passDay_36 : decode cX1_passDay 36 = .ok (.return_, 1) := by decide +kernel
theorem dX2_init_0 : decode cX2_init 0 = .ok (.aload_n 0, 1) := by decide +kernel
theorem dX2_init_1 : decode cX2_init 1 = .ok (.invokespecial 3, 3) := by decide +kernel
theorem dX2_init_4 : decode cX2_init 4 = .ok (.aload_n 0, 1) := by decide +kernel
theorem dX2_init_5 : decode cX2_init 5 = .ok (.bipush 40, 2) := by decide +kernel
theorem dX2_init_7 : decode cX2_init 7 = .ok (.newarray .long, 2) := by decide +kernel
theorem dX2_init_9 : decode cX2_init 9 = .ok (.putfield 9, 3) := by decide +kernel
theorem dX2_init_12 : decode cX2_init 12 = .ok (.return_, 1) := by decide +kernel
theorem dX2_allows_0 : decode cX2_allows 0 = .ok (.iload_n 0, 1) := by decide +kernel
theorem dX2_allows_1 : decode cX2_allows 1 = .ok (.ifCond .eq 21, 3) := by decide +kernel
theorem dX2_allows_4 : decode cX2_allows 4 = .ok (.iload_n 0, 1) := by decide +kernel
theorem dX2_allows_5 : decode cX2_allows 5 = .ok (.bipush 8, 2) := by decide +kernel
theorem dX2_allows_7 : decode cX2_allows 7 = .ok (.if_icmp .eq 15, 3) := by decide +kernel
theorem dX2_allows_10 : decode cX2_allows 10 = .ok (.iload_n 0, 1) := by decide +kernel
theorem dX2_allows_11 : decode cX2_allows 11 = .ok (.bipush 16, 2) := by decide +kernel
theorem dX2_allows_13 : decode cX2_allows 13 = .ok (.if_icmp .eq 9, 3) := by decide +kernel
theorem dX2_allows_16 : decode cX2_allows 16 = .ok (.iload_n 0, 1) := by decide +kernel
theorem dX2_allows_17 : decode cX2_allows 17 = .ok (.bipush 64, 2) := by decide +kernel
theorem dX2_allows_19 : decode cX2_allows 19 = .ok (.if_icmp .ne 7, 3) := by decide +kernel
theorem dX2_allows_22 : decode cX2_allows 22 = .ok (.iconst 1, 1) := by decide +kernel
theorem dX2_allows_23 : decode cX2_allows 23 = .ok (.goto 4, 3) := by decide +kernel
theorem dX2_allows_26 : decode cX2_allows 26 = .ok (.iconst 0, 1) := by decide +kernel
theorem dX2_allows_27 : decode cX2_allows 27 = .ok (.ireturn, 1) := by decide +kernel
theorem dX2_lay_0 : decode cX2_lay 0 = .ok (.aload_n 0, 1) := by decide +kernel
theorem dX2_lay_1 : decode cX2_lay 1 = .ok (.iload_n 1, 1) := by decide +kernel
theorem dX2_lay_2 : decode cX2_lay 2 = .ok (.putfield 15, 3) := by decide +kernel
theorem dX2_lay_5 : decode cX2_lay 5 = .ok (.aload_n 0, 1) := by decide +kernel
theorem dX2_lay_6 : decode cX2_lay 6 = .ok (.iload_n 1, 1) := by decide +kernel
theorem dX2_lay_7 : decode cX2_lay 7 = .ok (.ifCond .ne 7, 3) := by decide +kernel
theorem dX2_lay_10 : decode cX2_lay 10 = .ok (.iconst 0, 1) := by decide +kernel
theorem dX2_lay_11 : decode cX2_lay 11 = .ok (.goto 13, 3) := by decide +kernel
theorem dX2_lay_14 : decode cX2_lay 14 = .ok (.iconst 0, 1) := by decide +kernel
theorem dX2_lay_15 : decode cX2_lay 15 = .ok (.bipush 40, 2) := by decide +kernel
theorem dX2_lay_17 : decode cX2_lay 17 = .ok (.iload_n 2, 1) := by decide +kernel
theorem dX2_lay_18 : decode cX2_lay 18 = .ok (.invokestatic 19, 3) := by decide +kernel
theorem dX2_lay_21 : decode cX2_lay 21 = .ok (.invokestatic 25, 3) := by decide +kernel
theorem dX2_lay_24 : decode cX2_lay 24 = .ok (.putfield 28, 3) := by decide +kernel
theorem dX2_lay_27 : decode cX2_lay 27 = .ok (.iconst 0, 1) := by decide +kernel
theorem dX2_lay_28 : decode cX2_lay 28 = .ok (.istore_n 3, 1) := by decide +kernel
theorem dX2_lay_29 : decode cX2_lay 29 = .ok (.iload_n 3, 1) := by decide +kernel
theorem dX2_lay_30 : decode cX2_lay 30 = .ok (.aload_n 0, 1) := by decide +kernel
theorem dX2_lay_31 : decode cX2_lay 31 = .ok (.getfield 9, 3) := by decide +kernel
theorem dX2_lay_34 : decode cX2_lay 34 = .ok (.arraylength, 1) := by decide +kernel
theorem dX2_lay_35 : decode cX2_lay 35 = .ok (.if_icmp .ge 16, 3) := by decide +kernel
theorem dX2_lay_38 : decode cX2_lay 38 = .ok (.aload_n 0, 1) := by decide +kernel
theorem dX2_lay_39 : decode cX2_lay 39 = .ok (.getfield 9, 3) := by decide +kernel
theorem dX2_lay_42 : decode cX2_lay 42 = .ok (.iload_n 3, 1) := by decide +kernel
theorem dX2_lay_43 : decode cX2_lay 43 = .ok (.lconst 0, 1) := by decide +kernel
theorem dX2_lay_44 : decode cX2_lay 44 = .ok (.lastore, 1) := by decide +kernel
theorem dX2_lay_45 : decode cX2_lay 45 = .ok (.iinc 3 1, 3) := by decide +kernel
theorem dX2_lay_48 : decode cX2_lay 48 = .ok (.goto (-19), 3) := by decide +kernel
theorem dX2_lay_51 : decode cX2_lay 51 = .ok (.return_, 1) := by decide +kernel
theorem dX2_isMissing_0 : decode cX2_isMissing 0 = .ok (.aload_n 0, 1) := by decide +kernel
theorem dX2_isMissing_1 : decode cX2_isMissing 1 = .ok (.getfield 15, 3) := by decide +kernel
theorem dX2_isMissing_4 : decode cX2_isMissing 4 = .ok (.ifCond .ne 7, 3) := by decide +kernel
theorem dX2_isMissing_7 : decode cX2_isMissing 7 = .ok (.iconst 1, 1) := by decide +kernel
theorem dX2_isMissing_8 : decode cX2_isMissing 8 = .ok (.goto 4, 3) := by decide +kernel
theorem dX2_isMissing_11 : decode cX2_isMissing 11 = .ok (.iconst 0, 1) := by decide +kernel
theorem dX2_isMissing_12 : decode cX2_isMissing 12 = .ok (.ireturn, 1) := by decide +kernel
theorem dX2_hasRange_0 : decode cX2_hasRange 0 = .ok (.iload_n 1, 1) := by decide +kernel
theorem dX2_hasRange_1 : decode cX2_hasRange 1 = .ok (.ifCond .lt 29, 3) := by decide +kernel
theorem dX2_hasRange_4 : decode cX2_hasRange 4 = .ok (.iload_n 2, 1) := by decide +kernel
theorem dX2_hasRange_5 : decode cX2_hasRange 5 = .ok (.ifCond .lt 25, 3) := by decide +kernel
theorem dX2_hasRange_8 : decode cX2_hasRange 8 = .ok (.iload_n 1, 1) := by decide +kernel
theorem dX2_hasRange_9 : decode cX2_hasRange 9 = .ok (.aload_n 0, 1) := by decide +kernel
theorem dX2_hasRange_10 : decode cX2_hasRange 10 = .ok (.getfield 28, 3) := by decide +kernel
theorem dX2_hasRange_13 : decode cX2_hasRange 13 = .ok (.if_icmp .gt 17, 3) := by decide +kernel
theorem dX2_hasRange_16 : decode cX2_hasRange 16 = .ok (.iload_n 2, 1) := by decide +kernel
theorem dX2_hasRange_17 : decode cX2_hasRange 17 = .ok (.aload_n 0, 1) := by decide +kernel
theorem dX2_hasRange_18 : decode cX2_hasRange 18 = .ok (.getfield 28, 3) := by decide +kernel
theorem dX2_hasRange_21 : decode cX2_hasRange 21 = .ok (.iload_n 1, 1) := by decide +kernel
theorem dX2_hasRange_22 : decode cX2_hasRange 22 = .ok (.isub, 1) := by decide +kernel
theorem dX2_hasRange_23 : decode cX2_hasRange 23 = .ok (.if_icmp .gt 7, 3) := by decide +kernel
theorem dX2_hasRange_26 : decode cX2_hasRange 26 = .ok (.iconst 1, 1) := by decide +kernel
theorem dX2_hasRange_27 : decode cX2_hasRange 27 = .ok (.goto 4, 3) := by decide +kernel
theorem dX2_hasRange_30 : decode cX2_hasRange 30 = .ok (.iconst 0, 1) := by decide +kernel
theorem dX2_hasRange_31 : decode cX2_hasRange 31 = .ok (.ireturn, 1) := by decide +kernel
theorem dX2_numberAt_0 : decode cX2_numberAt 0 = .ok (.iload_n 1, 1) := by decide +kernel
theorem dX2_numberAt_1 : decode cX2_numberAt 1 = .ok (.ifCond .lt 20, 3) := by decide +kernel
theorem dX2_numberAt_4 : decode cX2_numberAt 4 = .ok (.iload_n 1, 1) := by decide +kernel
theorem dX2_numberAt_5 : decode cX2_numberAt 5 = .ok (.aload_n 0, 1) := by decide +kernel
theorem dX2_numberAt_6 : decode cX2_numberAt 6 = .ok (.getfield 28, 3) := by decide +kernel
theorem dX2_numberAt_9 : decode cX2_numberAt 9 = .ok (.if_icmp .ge 12, 3) := by decide +kernel
theorem dX2_numberAt_12 : decode cX2_numberAt 12 = .ok (.aload_n 0, 1) := by decide +kernel
theorem dX2_numberAt_13 : decode cX2_numberAt 13 = .ok (.getfield 9, 3) := by decide +kernel
theorem dX2_numberAt_16 : decode cX2_numberAt 16 = .ok (.iload_n 1, 1) := by decide +kernel
theorem dX2_numberAt_17 : decode cX2_numberAt 17 = .ok (.laload, 1) := by decide +kernel
theorem dX2_numberAt_18 : decode cX2_numberAt 18 = .ok (.goto 4, 3) := by decide +kernel
theorem dX2_numberAt_21 : decode cX2_numberAt 21 = .ok (.lconst 0, 1) := by decide +kernel
theorem dX2_numberAt_22 : decode cX2_numberAt 22 = .ok (.lreturn, 1) := by decide +kernel
theorem dX2_put_0 : decode cX2_put 0 = .ok (.iload_n 1, 1) := by decide +kernel
theorem dX2_put_1 : decode cX2_put 1 = .ok (.ifCond .lt 22, 3) := by decide +kernel
theorem dX2_put_4 : decode cX2_put 4 = .ok (.iload_n 1, 1) := by decide +kernel
theorem dX2_put_5 : decode cX2_put 5 = .ok (.aload_n 0, 1) := by decide +kernel
theorem dX2_put_6 : decode cX2_put 6 = .ok (.getfield 28, 3) := by decide +kernel
theorem dX2_put_9 : decode cX2_put 9 = .ok (.if_icmp .ge 14, 3) := by decide +kernel
theorem dX2_put_12 : decode cX2_put 12 = .ok (.aload_n 0, 1) := by decide +kernel
theorem dX2_put_13 : decode cX2_put 13 = .ok (.getfield 9, 3) := by decide +kernel
theorem dX2_put_16 : decode cX2_put 16 = .ok (.iload_n 1, 1) := by decide +kernel
theorem dX2_put_17 : decode cX2_put 17 = .ok (.aload_n 0, 1) := by decide +kernel
theorem dX2_put_18 : decode cX2_put 18 = .ok (.lload_n 2, 1) := by decide +kernel
theorem dX2_put_19 : decode cX2_put 19 = .ok (.invokevirtual 31, 3) := by decide +kernel
theorem dX2_put_22 : decode cX2_put 22 = .ok (.lastore, 1) := by decide +kernel
theorem dX2_put_23 : decode cX2_put 23 = .ok (.return_, 1) := by decide +kernel
theorem dX2_lowest_0 : decode cX2_lowest 0 = .ok (.aload_n 0, 1) := by decide +kernel
theorem dX2_lowest_1 : decode cX2_lowest 1 = .ok (.getfield 15, 3) := by decide +kernel
theorem dX2_lowest_4 : decode cX2_lowest 4 = .ok (.bipush 8, 2) := by decide +kernel
theorem dX2_lowest_6 : decode cX2_lowest 6 = .ok (.if_icmp .ne 8, 3) := by decide +kernel
theorem dX2_lowest_9 : decode cX2_lowest 9 = .ok (.lload_n 1, 1) := by decide +kernel
theorem dX2_lowest_10 : decode cX2_lowest 10 = .ok (.l2i, 1) := by decide +kernel
theorem dX2_lowest_11 : decode cX2_lowest 11 = .ok (.i2b, 1) := by decide +kernel
theorem dX2_lowest_12 : decode cX2_lowest 12 = .ok (.i2l, 1) := by decide +kernel
theorem dX2_lowest_13 : decode cX2_lowest 13 = .ok (.lreturn, 1) := by decide +kernel
theorem dX2_lowest_14 : decode cX2_lowest 14 = .ok (.aload_n 0, 1) := by decide +kernel
theorem dX2_lowest_15 : decode cX2_lowest 15 = .ok (.getfield 15, 3) := by decide +kernel
theorem dX2_lowest_18 : decode cX2_lowest 18 = .ok (.bipush 16, 2) := by decide +kernel
theorem dX2_lowest_20 : decode cX2_lowest 20 = .ok (.if_icmp .ne 10, 3) := by decide +kernel
theorem dX2_lowest_23 : decode cX2_lowest 23 = .ok (.lload_n 1, 1) := by decide +kernel
theorem dX2_lowest_24 : decode cX2_lowest 24 = .ok (.l2i, 1) := by decide +kernel
theorem dX2_lowest_25 : decode cX2_lowest 25 = .ok (.i2s, 1) := by decide +kernel
theorem dX2_lowest_26 : decode cX2_lowest 26 = .ok (.i2l, 1) := by decide +kernel
theorem dX2_lowest_27 : decode cX2_lowest 27 = .ok (.goto 4, 3) := by decide +kernel
theorem dX2_lowest_30 : decode cX2_lowest 30 = .ok (.lload_n 1, 1) := by decide +kernel
theorem dX2_lowest_31 : decode cX2_lowest 31 = .ok (.lreturn, 1) := by decide +kernel
theorem dX3_init_0 : decode cX3_init 0 = .ok (.aload_n 0, 1) := by decide +kernel
theorem dX3_init_1 : decode cX3_init 1 = .ok (.invokespecial 3, 3) := by decide +kernel
theorem dX3_init_4 : decode cX3_init 4 = .ok (.aload_n 0, 1) := by decide +kernel
theorem dX3_init_5 : decode cX3_init 5 = .ok (.bipush 10, 2) := by decide +kernel
theorem dX3_init_7 : decode cX3_init 7 = .ok (.putfield 9, 3) := by decide +kernel
theorem dX3_init_10 : decode cX3_init 10 = .ok (.aload_n 0, 1) := by decide +kernel
theorem dX3_init_11 : decode cX3_init 11 = .ok (.bipush 6, 2) := by decide +kernel
theorem dX3_init_13 : decode cX3_init 13 = .ok (.anewarray 15, 3) := by decide +kernel
theorem dX3_init_16 : decode cX3_init 16 = .ok (.putfield 17, 3) := by decide +kernel
theorem dX3_init_19 : decode cX3_init 19 = .ok (.aload_n 0, 1) := by decide +kernel
theorem dX3_init_20 : decode cX3_init 20 = .ok (.bipush 8, 2) := by decide +kernel
theorem dX3_init_22 : decode cX3_init 22 = .ok (.anewarray 21, 3) := by decide +kernel
theorem dX3_init_25 : decode cX3_init 25 = .ok (.putfield 23, 3) := by decide +kernel
theorem dX3_init_28 : decode cX3_init 28 = .ok (.iconst 0, 1) := by decide +kernel
theorem dX3_init_29 : decode cX3_init 29 = .ok (.istore_n 1, 1) := by decide +kernel
theorem dX3_init_30 : decode cX3_init 30 = .ok (.iload_n 1, 1) := by decide +kernel
theorem dX3_init_31 : decode cX3_init 31 = .ok (.aload_n 0, 1) := by decide +kernel
theorem dX3_init_32 : decode cX3_init 32 = .ok (.getfield 17, 3) := by decide +kernel
theorem dX3_init_35 : decode cX3_init 35 = .ok (.arraylength, 1) := by decide +kernel
theorem dX3_init_36 : decode cX3_init 36 = .ok (.if_icmp .ge 22, 3) := by decide +kernel
theorem dX3_init_39 : decode cX3_init 39 = .ok (.aload_n 0, 1) := by decide +kernel
theorem dX3_init_40 : decode cX3_init 40 = .ok (.getfield 17, 3) := by decide +kernel
theorem dX3_init_43 : decode cX3_init 43 = .ok (.iload_n 1, 1) := by decide +kernel
theorem dX3_init_44 : decode cX3_init 44 = .ok (.new 15, 3) := by decide +kernel
theorem dX3_init_47 : decode cX3_init 47 = .ok (.dup, 1) := by decide +kernel
theorem dX3_init_48 : decode cX3_init 48 = .ok (.invokespecial 27, 3) := by decide +kernel
theorem dX3_init_51 : decode cX3_init 51 = .ok (.aastore, 1) := by decide +kernel
theorem dX3_init_52 : decode cX3_init 52 = .ok (.iinc 1 1, 3) := by decide +kernel
theorem dX3_init_55 : decode cX3_init 55 = .ok (.goto (-25), 3) := by decide +kernel
theorem dX3_init_58 : decode cX3_init 58 = .ok (.iconst 0, 1) := by decide +kernel
theorem dX3_init_59 : decode cX3_init 59 = .ok (.istore_n 1, 1) := by decide +kernel
theorem dX3_init_60 : decode cX3_init 60 = .ok (.iload_n 1, 1) := by decide +kernel
theorem dX3_init_61 : decode cX3_init 61 = .ok (.aload_n 0, 1) := by decide +kernel
theorem dX3_init_62 : decode cX3_init 62 = .ok (.getfield 23, 3) := by decide +kernel
theorem dX3_init_65 : decode cX3_init 65 = .ok (.arraylength, 1) := by decide +kernel
theorem dX3_init_66 : decode cX3_init 66 = .ok (.if_icmp .ge 22, 3) := by decide +kernel
theorem dX3_init_69 : decode cX3_init 69 = .ok (.aload_n 0, 1) := by decide +kernel
theorem dX3_init_70 : decode cX3_init 70 = .ok (.getfield 23, 3) := by decide +kernel
theorem dX3_init_73 : decode cX3_init 73 = .ok (.iload_n 1, 1) := by decide +kernel
theorem dX3_init_74 : decode cX3_init 74 = .ok (.new 21, 3) := by decide +kernel
theorem dX3_init_77 : decode cX3_init 77 = .ok (.dup, 1) := by decide +kernel
theorem dX3_init_78 : decode cX3_init 78 = .ok (.invokespecial 28, 3) := by decide +kernel
theorem dX3_init_81 : decode cX3_init 81 = .ok (.aastore, 1) := by decide +kernel
theorem dX3_init_82 : decode cX3_init 82 = .ok (.iinc 1 1, 3) := by decide +kernel
theorem dX3_init_85 : decode cX3_init 85 = .ok (.goto (-25), 3) := by decide +kernel
theorem dX3_init_88 : decode cX3_init 88 = .ok (.return_, 1) := by decide +kernel
theorem dX3_become_0 : decode cX3_become 0 = .ok (.aload_n 0, 1) := by decide +kernel
theorem dX3_become_1 : decode cX3_become 1 = .ok (.aload_n 1, 1) := by decide +kernel
theorem dX3_become_2 : decode cX3_become 2 = .ok (.getfield 29, 3) := by decide +kernel
theorem dX3_become_5 : decode cX3_become 5 = .ok (.putfield 29, 3) := by decide +kernel
theorem dX3_become_8 : decode cX3_become 8 = .ok (.aload_n 0, 1) := by decide +kernel
theorem dX3_become_9 : decode cX3_become 9 = .ok (.aload_n 1, 1) := by decide +kernel
theorem dX3_become_10 : decode cX3_become 10 = .ok (.getfield 9, 3) := by decide +kernel
theorem dX3_become_13 : decode cX3_become 13 = .ok (.putfield 9, 3) := by decide +kernel
theorem dX3_become_16 : decode cX3_become 16 = .ok (.aload_n 0, 1) := by decide +kernel
theorem dX3_become_17 : decode cX3_become 17 = .ok (.aload_n 1, 1) := by decide +kernel
theorem dX3_become_18 : decode cX3_become 18 = .ok (.getfield 32, 3) := by decide +kernel
theorem dX3_become_21 : decode cX3_become 21 = .ok (.putfield 32, 3) := by decide +kernel
theorem dX3_become_24 : decode cX3_become 24 = .ok (.aload_n 0, 1) := by decide +kernel
theorem dX3_become_25 : decode cX3_become 25 = .ok (.aload_n 1, 1) := by decide +kernel
theorem dX3_become_26 : decode cX3_become 26 = .ok (.getfield 35, 3) := by decide +kernel
theorem dX3_become_29 : decode cX3_become 29 = .ok (.putfield 35, 3) := by decide +kernel
theorem dX3_become_32 : decode cX3_become 32 = .ok (.aload_n 0, 1) := by decide +kernel
theorem dX3_become_33 : decode cX3_become 33 = .ok (.aload_n 1, 1) := by decide +kernel
theorem dX3_become_34 : decode cX3_become 34 = .ok (.getfield 38, 3) := by decide +kernel
theorem dX3_become_37 : decode cX3_become 37 = .ok (.putfield 38, 3) := by decide +kernel
theorem dX3_become_40 : decode cX3_become 40 = .ok (.aload_n 0, 1) := by decide +kernel
theorem dX3_become_41 : decode cX3_become 41 = .ok (.aload_n 1, 1) := by decide +kernel
theorem dX3_become_42 : decode cX3_become 42 = .ok (.getfield 41, 3) := by decide +kernel
theorem dX3_become_45 : decode cX3_become 45 = .ok (.putfield 41, 3) := by decide +kernel
theorem dX3_become_48 : decode cX3_become 48 = .ok (.aload_n 0, 1) := by decide +kernel
theorem dX3_become_49 : decode cX3_become 49 = .ok (.aload_n 1, 1) := by decide +kernel
theorem dX3_become_50 : decode cX3_become 50 = .ok (.getfield 44, 3) := by decide +kernel
theorem dX3_become_53 : decode cX3_become 53 = .ok (.putfield 44, 3) := by decide +kernel
theorem dX3_become_56 : decode cX3_become 56 = .ok (.iconst 0, 1) := by decide +kernel
theorem dX3_become_57 : decode cX3_become 57 = .ok (.istore_n 2, 1) := by decide +kernel
theorem dX3_become_58 : decode cX3_become 58 = .ok (.iload_n 2, 1) := by decide +kernel
theorem dX3_become_59 : decode cX3_become 59 = .ok (.aload_n 0, 1) := by decide +kernel
theorem dX3_become_60 : decode cX3_become 60 = .ok (.getfield 17, 3) := by decide +kernel
theorem dX3_become_63 : decode cX3_become 63 = .ok (.arraylength, 1) := by decide +kernel
theorem dX3_become_64 : decode cX3_become 64 = .ok (.if_icmp .ge 24, 3) := by decide +kernel
theorem dX3_become_67 : decode cX3_become 67 = .ok (.aload_n 0, 1) := by decide +kernel
theorem dX3_become_68 : decode cX3_become 68 = .ok (.getfield 17, 3) := by decide +kernel
theorem dX3_become_71 : decode cX3_become 71 = .ok (.iload_n 2, 1) := by decide +kernel
theorem dX3_become_72 : decode cX3_become 72 = .ok (.aaload, 1) := by decide +kernel
theorem dX3_become_73 : decode cX3_become 73 = .ok (.aload_n 1, 1) := by decide +kernel
theorem dX3_become_74 : decode cX3_become 74 = .ok (.getfield 17, 3) := by decide +kernel
theorem dX3_become_77 : decode cX3_become 77 = .ok (.iload_n 2, 1) := by decide +kernel
theorem dX3_become_78 : decode cX3_become 78 = .ok (.aaload, 1) := by decide +kernel
theorem dX3_become_79 : decode cX3_become 79 = .ok (.invokevirtual 47, 3) := by decide +kernel
theorem dX3_become_82 : decode cX3_become 82 = .ok (.iinc 2 1, 3) := by decide +kernel
theorem dX3_become_85 : decode cX3_become 85 = .ok (.goto (-27), 3) := by decide +kernel
theorem dX3_become_88 : decode cX3_become 88 = .ok (.iconst 0, 1) := by decide +kernel
theorem dX3_become_89 : decode cX3_become 89 = .ok (.istore_n 2, 1) := by decide +kernel
theorem dX3_become_90 : decode cX3_become 90 = .ok (.iload_n 2, 1) := by decide +kernel
theorem dX3_become_91 : decode cX3_become 91 = .ok (.aload_n 0, 1) := by decide +kernel
theorem dX3_become_92 : decode cX3_become 92 = .ok (.getfield 23, 3) := by decide +kernel
theorem dX3_become_95 : decode cX3_become 95 = .ok (.arraylength, 1) := by decide +kernel
theorem dX3_become_96 : decode cX3_become 96 = .ok (.if_icmp .ge 24, 3) := by decide +kernel
theorem dX3_become_99 : decode cX3_become 99 = .ok (.aload_n 0, 1) := by decide +kernel
theorem dX3_become_100 : decode cX3_become 100 = .ok (.getfield 23, 3) := by decide +kernel
theorem dX3_become_103 : decode cX3_become 103 = .ok (.iload_n 2, 1) := by decide +kernel
theorem dX3_become_104 : decode cX3_become 104 = .ok (.aaload, 1) := by decide +kernel
theorem dX3_become_105 : decode cX3_become 105 = .ok (.aload_n 1, 1) := by decide +kernel
theorem dX3_become_106 : decode cX3_become 106 = .ok (.getfield 23, 3) := by decide +kernel
theorem dX3_become_109 : decode cX3_become 109 = .ok (.iload_n 2, 1) := by decide +kernel
theorem dX3_become_110 : decode cX3_become 110 = .ok (.aaload, 1) := by decide +kernel
theorem dX3_become_111 : decode cX3_become 111 = .ok (.invokevirtual 51, 3) := by decide +kernel
theorem dX3_become_114 : decode cX3_become 114 = .ok (.iinc 2 1, 3) := by decide +kernel
theorem dX3_become_117 : decode cX3_become 117 = .ok (.goto (-27), 3) := by decide +kernel
theorem dX3_become_120 : decode cX3_become 120 = .ok (.return_, 1) := by decide +kernel
theorem dX3_calendarAt_0 : decode cX3_calendarAt 0 = .ok (.iload_n 1, 1) := by decide +kernel
theorem dX3_calendarAt_1 : decode cX3_calendarAt 1 = .ok (.ifCond .lt 24, 3) := by decide +kernel
theorem dX3_calendarAt_4 : decode cX3_calendarAt 4 = .ok (.iload_n 1, 1) := by decide +kernel
theorem dX3_calendarAt_5 : decode cX3_calendarAt 5 = .ok (.aload_n 0, 1) := by decide +kernel
theorem dX3_calendarAt_6 : decode cX3_calendarAt 6 = .ok (.getfield 41, 3) := by decide +kernel
theorem dX3_calendarAt_9 : decode cX3_calendarAt 9 = .ok (.if_icmp .ge 16, 3) := by decide +kernel
theorem dX3_calendarAt_12 : decode cX3_calendarAt 12 = .ok (.iload_n 1, 1) := by decide +kernel
theorem dX3_calendarAt_13 : decode cX3_calendarAt 13 = .ok (.aload_n 0, 1) := by decide +kernel
theorem dX3_calendarAt_14 : decode cX3_calendarAt 14 = .ok (.getfield 17, 3) := by decide +kernel
theorem dX3_calendarAt_17 : decode cX3_calendarAt 17 = .ok (.arraylength, 1) := by decide +kernel
theorem dX3_calendarAt_18 : decode cX3_calendarAt 18 = .ok (.if_icmp .ge 7, 3) := by decide +kernel
theorem dX3_calendarAt_21 : decode cX3_calendarAt 21 = .ok (.iconst 1, 1) := by decide +kernel
theorem dX3_calendarAt_22 : decode cX3_calendarAt 22 = .ok (.goto 4, 3) := by decide +kernel
theorem dX3_calendarAt_25 : decode cX3_calendarAt 25 = .ok (.iconst 0, 1) := by decide +kernel
theorem dX3_calendarAt_26 : decode cX3_calendarAt 26 = .ok (.istore_n 2, 1) := by decide +kernel
theorem dX3_calendarAt_27 : decode cX3_calendarAt 27 = .ok (.iload_n 2, 1) := by decide +kernel
theorem dX3_calendarAt_28 : decode cX3_calendarAt 28 = .ok (.ifCond .eq 12, 3) := by decide +kernel
theorem dX3_calendarAt_31 : decode cX3_calendarAt 31 = .ok (.aload_n 0, 1) := by decide +kernel
theorem dX3_calendarAt_32 : decode cX3_calendarAt 32 = .ok (.getfield 17, 3) := by decide +kernel
theorem dX3_calendarAt_35 : decode cX3_calendarAt 35 = .ok (.iload_n 1, 1) := by decide +kernel
theorem dX3_calendarAt_36 : decode cX3_calendarAt 36 = .ok (.aaload, 1) := by decide +kernel
theorem dX3_calendarAt_37 : decode cX3_calendarAt 37 = .ok (.goto 4, 3) := by decide +kernel
theorem dX3_calendarAt_40 : decode cX3_calendarAt 40 = .ok (.aconst_null, 1) := by decide +kernel
theorem dX3_calendarAt_41 : decode cX3_calendarAt 41 = .ok (.areturn, 1) := by decide +kernel
theorem dX3_pilgrimAt_0 : decode cX3_pilgrimAt 0 = .ok (.iload_n 1, 1) := by decide +kernel
theorem dX3_pilgrimAt_1 : decode cX3_pilgrimAt 1 = .ok (.ifCond .lt 24, 3) := by decide +kernel
theorem dX3_pilgrimAt_4 : decode cX3_pilgrimAt 4 = .ok (.iload_n 1, 1) := by decide +kernel
theorem dX3_pilgrimAt_5 : decode cX3_pilgrimAt 5 = .ok (.aload_n 0, 1) := by decide +kernel
theorem dX3_pilgrimAt_6 : decode cX3_pilgrimAt 6 = .ok (.getfield 44, 3) := by decide +kernel
theorem dX3_pilgrimAt_9 : decode cX3_pilgrimAt 9 = .ok (.if_icmp .ge 16, 3) := by decide +kernel
theorem dX3_pilgrimAt_12 : decode cX3_pilgrimAt 12 = .ok (.iload_n 1, 1) := by decide +kernel
theorem dX3_pilgrimAt_13 : decode cX3_pilgrimAt 13 = .ok (.aload_n 0, 1) := by decide +kernel
theorem dX3_pilgrimAt_14 : decode cX3_pilgrimAt 14 = .ok (.getfield 23, 3) := by decide +kernel
theorem dX3_pilgrimAt_17 : decode cX3_pilgrimAt 17 = .ok (.arraylength, 1) := by decide +kernel
theorem dX3_pilgrimAt_18 : decode cX3_pilgrimAt 18 = .ok (.if_icmp .ge 7, 3) := by decide +kernel
theorem dX3_pilgrimAt_21 : decode cX3_pilgrimAt 21 = .ok (.iconst 1, 1) := by decide +kernel
theorem dX3_pilgrimAt_22 : decode cX3_pilgrimAt 22 = .ok (.goto 4, 3) := by decide +kernel
theorem dX3_pilgrimAt_25 : decode cX3_pilgrimAt 25 = .ok (.iconst 0, 1) := by decide +kernel
theorem dX3_pilgrimAt_26 : decode cX3_pilgrimAt 26 = .ok (.istore_n 2, 1) := by decide +kernel
theorem dX3_pilgrimAt_27 : decode cX3_pilgrimAt 27 = .ok (.iload_n 2, 1) := by decide +kernel
theorem dX3_pilgrimAt_28 : decode cX3_pilgrimAt 28 = .ok (.ifCond .eq 12, 3) := by decide +kernel
theorem dX3_pilgrimAt_31 : decode cX3_pilgrimAt 31 = .ok (.aload_n 0, 1) := by decide +kernel
theorem dX3_pilgrimAt_32 : decode cX3_pilgrimAt 32 = .ok (.getfield 23, 3) := by decide +kernel
theorem dX3_pilgrimAt_35 : decode cX3_pilgrimAt 35 = .ok (.iload_n 1, 1) := by decide +kernel
theorem dX3_pilgrimAt_36 : decode cX3_pilgrimAt 36 = .ok (.aaload, 1) := by decide +kernel
theorem dX3_pilgrimAt_37 : decode cX3_pilgrimAt 37 = .ok (.goto 4, 3) := by decide +kernel
theorem dX3_pilgrimAt_40 : decode cX3_pilgrimAt 40 = .ok (.aconst_null, 1) := by decide +kernel
theorem dX3_pilgrimAt_41 : decode cX3_pilgrimAt 41 = .ok (.areturn, 1) := by decide +kernel
theorem dX3_hasBoth_0 : decode cX3_hasBoth 0 = .ok (.iload_n 1, 1) := by decide +kernel
theorem dX3_hasBoth_1 : decode cX3_hasBoth 1 = .ok (.iload_n 2, 1) := by decide +kernel
theorem dX3_hasBoth_2 : decode cX3_hasBoth 2 = .ok (.if_icmp .eq 23, 3) := by decide +kernel
theorem dX3_hasBoth_5 : decode cX3_hasBoth 5 = .ok (.aload_n 0, 1) := by decide +kernel
theorem dX3_hasBoth_6 : decode cX3_hasBoth 6 = .ok (.iload_n 1, 1) := by decide +kernel
theorem dX3_hasBoth_7 : decode cX3_hasBoth 7 = .ok (.invokevirtual 54, 3) := by decide +kernel
theorem dX3_hasBoth_10 : decode cX3_hasBoth 10 = .ok (.ifnull 15, 3) := by decide +kernel
theorem dX3_hasBoth_13 : decode cX3_hasBoth 13 = .ok (.aload_n 0, 1) := by decide +kernel
theorem dX3_hasBoth_14 : decode cX3_hasBoth 14 = .ok (.iload_n 2, 1) := by decide +kernel
theorem dX3_hasBoth_15 : decode cX3_hasBoth 15 = .ok (.invokevirtual 54, 3) := by decide +kernel
theorem dX3_hasBoth_18 : decode cX3_hasBoth 18 = .ok (.ifnull 7, 3) := by decide +kernel
theorem dX3_hasBoth_21 : decode cX3_hasBoth 21 = .ok (.iconst 1, 1) := by decide +kernel
theorem dX3_hasBoth_22 : decode cX3_hasBoth 22 = .ok (.goto 4, 3) := by decide +kernel
theorem dX3_hasBoth_25 : decode cX3_hasBoth 25 = .ok (.iconst 0, 1) := by decide +kernel
theorem dX3_hasBoth_26 : decode cX3_hasBoth 26 = .ok (.ireturn, 1) := by decide +kernel
theorem dX3_canTrust_0 : decode cX3_canTrust 0 = .ok (.iload_n 1, 1) := by decide +kernel
theorem dX3_canTrust_1 : decode cX3_canTrust 1 = .ok (.iconst (-1), 1) := by decide +kernel
theorem dX3_canTrust_2 : decode cX3_canTrust 2 = .ok (.if_icmp .eq 11, 3) := by decide +kernel
theorem dX3_canTrust_5 : decode cX3_canTrust 5 = .ok (.aload_n 0, 1) := by decide +kernel
theorem dX3_canTrust_6 : decode cX3_canTrust 6 = .ok (.iload_n 1, 1) := by decide +kernel
theorem dX3_canTrust_7 : decode cX3_canTrust 7 = .ok (.invokevirtual 54, 3) := by decide +kernel
theorem dX3_canTrust_10 : decode cX3_canTrust 10 = .ok (.ifnull 7, 3) := by decide +kernel
theorem dX3_canTrust_13 : decode cX3_canTrust 13 = .ok (.iconst 1, 1) := by decide +kernel
theorem dX3_canTrust_14 : decode cX3_canTrust 14 = .ok (.goto 4, 3) := by decide +kernel
theorem dX3_canTrust_17 : decode cX3_canTrust 17 = .ok (.iconst 0, 1) := by decide +kernel
theorem dX3_canTrust_18 : decode cX3_canTrust 18 = .ok (.ireturn, 1) := by decide +kernel
theorem dX3_addCalendar_0 : decode cX3_addCalendar 0 = .ok (.aload_n 0, 1) := by decide +kernel
theorem dX3_addCalendar_1 : decode cX3_addCalendar 1 = .ok (.getfield 41, 3) := by decide +kernel
theorem dX3_addCalendar_4 : decode cX3_addCalendar 4 = .ok (.aload_n 0, 1) := by decide +kernel
theorem dX3_addCalendar_5 : decode cX3_addCalendar 5 = .ok (.getfield 17, 3) := by decide +kernel
theorem dX3_addCalendar_8 : decode cX3_addCalendar 8 = .ok (.arraylength, 1) := by decide +kernel
theorem dX3_addCalendar_9 : decode cX3_addCalendar 9 = .ok (.if_icmp .ge 26, 3) := by decide +kernel
theorem dX3_addCalendar_12 : decode cX3_addCalendar 12 = .ok (.aload_n 0, 1) := by decide +kernel
theorem dX3_addCalendar_13 : decode cX3_addCalendar 13 = .ok (.getfield 17, 3) := by decide +kernel
theorem dX3_addCalendar_16 : decode cX3_addCalendar 16 = .ok (.aload_n 0, 1) := by decide +kernel
theorem dX3_addCalendar_17 : decode cX3_addCalendar 17 = .ok (.getfield 41, 3) := by decide +kernel
theorem dX3_addCalendar_20 : decode cX3_addCalendar 20 = .ok (.aaload, 1) := by decide +kernel
theorem dX3_addCalendar_21 : decode cX3_addCalendar 21 = .ok (.iload_n 1, 1) := by decide +kernel
theorem dX3_addCalendar_22 : decode cX3_addCalendar 22 = .ok (.invokevirtual 58, 3) := by decide +kernel
theorem dX3_addCalendar_25 : decode cX3_addCalendar 25 = .ok (.aload_n 0, 1) := by decide +kernel
theorem dX3_addCalendar_26 : decode cX3_addCalendar 26 = .ok (.dup, 1) := by decide +kernel
theorem dX3_addCalendar_27 : decode cX3_addCalendar 27 = .ok (.getfield 41, 3) := by decide +kernel
theorem dX3_addCalendar_30 : decode cX3_addCalendar 30 = .ok (.iconst 1, 1) := by decide +kernel
theorem dX3_addCalendar_31 : decode cX3_addCalendar 31 = .ok (.iadd, 1) := by decide +kernel
theorem dX3_addCalendar_32 : decode cX3_addCalendar 32 = .ok (.putfield 41, 3) := by decide +kernel
theorem dX3_addCalendar_35 : decode cX3_addCalendar 35 = .ok (.return_, 1) := by decide +kernel
theorem dX3_addPilgrim_0 : decode cX3_addPilgrim 0 = .ok (.aload_n 0, 1) := by decide +kernel
theorem dX3_addPilgrim_1 : decode cX3_addPilgrim 1 = .ok (.getfield 44, 3) := by decide +kernel
theorem dX3_addPilgrim_4 : decode cX3_addPilgrim 4 = .ok (.aload_n 0, 1) := by decide +kernel
theorem dX3_addPilgrim_5 : decode cX3_addPilgrim 5 = .ok (.getfield 23, 3) := by decide +kernel
theorem dX3_addPilgrim_8 : decode cX3_addPilgrim 8 = .ok (.arraylength, 1) := by decide +kernel
theorem dX3_addPilgrim_9 : decode cX3_addPilgrim 9 = .ok (.if_icmp .ge 27, 3) := by decide +kernel
theorem dX3_addPilgrim_12 : decode cX3_addPilgrim 12 = .ok (.aload_n 0, 1) := by decide +kernel
theorem dX3_addPilgrim_13 : decode cX3_addPilgrim 13 = .ok (.getfield 23, 3) := by decide +kernel
theorem dX3_addPilgrim_16 : decode cX3_addPilgrim 16 = .ok (.aload_n 0, 1) := by decide +kernel
theorem dX3_addPilgrim_17 : decode cX3_addPilgrim 17 = .ok (.getfield 44, 3) := by decide +kernel
theorem dX3_addPilgrim_20 : decode cX3_addPilgrim 20 = .ok (.aaload, 1) := by decide +kernel
theorem dX3_addPilgrim_21 : decode cX3_addPilgrim 21 = .ok (.iload_n 1, 1) := by decide +kernel
theorem dX3_addPilgrim_22 : decode cX3_addPilgrim 22 = .ok (.iload_n 2, 1) := by decide +kernel
theorem dX3_addPilgrim_23 : decode cX3_addPilgrim 23 = .ok (.invokevirtual 62, 3) := by decide +kernel
theorem dX3_addPilgrim_26 : decode cX3_addPilgrim 26 = .ok (.aload_n 0, 1) := by decide +kernel
theorem dX3_addPilgrim_27 : decode cX3_addPilgrim 27 = .ok (.dup, 1) := by decide +kernel
theorem dX3_addPilgrim_28 : decode cX3_addPilgrim 28 = .ok (.getfield 44, 3) := by decide +kernel
theorem dX3_addPilgrim_31 : decode cX3_addPilgrim 31 = .ok (.iconst 1, 1) := by decide +kernel
theorem dX3_addPilgrim_32 : decode cX3_addPilgrim 32 = .ok (.iadd, 1) := by decide +kernel
theorem dX3_addPilgrim_33 : decode cX3_addPilgrim 33 = .ok (.putfield 44, 3) := by decide +kernel
theorem dX3_addPilgrim_36 : decode cX3_addPilgrim 36 = .ok (.return_, 1) := by decide +kernel
theorem dX3_isHolyBy_0 : decode cX3_isHolyBy 0 = .ok (.aload_n 0, 1) := by decide +kernel
theorem dX3_isHolyBy_1 : decode cX3_isHolyBy 1 = .ok (.iload_n 1, 1) := by decide +kernel
theorem dX3_isHolyBy_2 : decode cX3_isHolyBy 2 = .ok (.invokevirtual 54, 3) := by decide +kernel
theorem dX3_isHolyBy_5 : decode cX3_isHolyBy 5 = .ok (.astore_n 3, 1) := by decide +kernel
theorem dX3_isHolyBy_6 : decode cX3_isHolyBy 6 = .ok (.aload_n 3, 1) := by decide +kernel
theorem dX3_isHolyBy_7 : decode cX3_isHolyBy 7 = .ok (.ifnull 15, 3) := by decide +kernel
theorem dX3_isHolyBy_10 : decode cX3_isHolyBy 10 = .ok (.aload_n 3, 1) := by decide +kernel
theorem dX3_isHolyBy_11 : decode cX3_isHolyBy 11 = .ok (.iload_n 2, 1) := by decide +kernel
theorem dX3_isHolyBy_12 : decode cX3_isHolyBy 12 = .ok (.invokevirtual 66, 3) := by decide +kernel
theorem dX3_isHolyBy_15 : decode cX3_isHolyBy 15 = .ok (.ifCond .eq 7, 3) := by decide +kernel
theorem dX3_isHolyBy_18 : decode cX3_isHolyBy 18 = .ok (.iconst 1, 1) := by decide +kernel
theorem dX3_isHolyBy_19 : decode cX3_isHolyBy 19 = .ok (.goto 4, 3) := by decide +kernel
theorem dX3_isHolyBy_22 : decode cX3_isHolyBy 22 = .ok (.iconst 0, 1) := by decide +kernel
theorem dX3_isHolyBy_23 : decode cX3_isHolyBy 23 = .ok (.ireturn, 1) := by decide +kernel
theorem dX3_holySet_0 : decode cX3_holySet 0 = .ok (.iconst 0, 1) := by decide +kernel
theorem dX3_holySet_1 : decode cX3_holySet 1 = .ok (.istore_n 2, 1) := by decide +kernel
theorem dX3_holySet_2 : decode cX3_holySet 2 = .ok (.iconst 0, 1) := by decide +kernel
theorem dX3_holySet_3 : decode cX3_holySet 3 = .ok (.istore_n 3, 1) := by decide +kernel
theorem dX3_holySet_4 : decode cX3_holySet 4 = .ok (.iload_n 3, 1) := by decide +kernel
theorem dX3_holySet_5 : decode cX3_holySet 5 = .ok (.aload_n 0, 1) := by decide +kernel
theorem dX3_holySet_6 : decode cX3_holySet 6 = .ok (.getfield 41, 3) := by decide +kernel
theorem dX3_holySet_9 : decode cX3_holySet 9 = .ok (.if_icmp .ge 37, 3) := by decide +kernel
theorem dX3_holySet_12 : decode cX3_holySet 12 = .ok (.iload_n 3, 1) := by decide +kernel
theorem dX3_holySet_13 : decode cX3_holySet 13 = .ok (.aload_n 0, 1) := by decide +kernel
theorem dX3_holySet_14 : decode cX3_holySet 14 = .ok (.getfield 17, 3) := by decide +kernel
theorem dX3_holySet_17 : decode cX3_holySet 17 = .ok (.arraylength, 1) := by decide +kernel
theorem dX3_holySet_18 : decode cX3_holySet 18 = .ok (.if_icmp .ge 28, 3) := by decide +kernel
theorem dX3_holySet_21 : decode cX3_holySet 21 = .ok (.aload_n 0, 1) := by decide +kernel
theorem dX3_holySet_22 : decode cX3_holySet 22 = .ok (.getfield 17, 3) := by decide +kernel
theorem dX3_holySet_25 : decode cX3_holySet 25 = .ok (.iload_n 3, 1) := by decide +kernel
theorem dX3_holySet_26 : decode cX3_holySet 26 = .ok (.aaload, 1) := by decide +kernel
theorem dX3_holySet_27 : decode cX3_holySet 27 = .ok (.iload_n 1, 1) := by decide +kernel
theorem dX3_holySet_28 : decode cX3_holySet 28 = .ok (.invokevirtual 66, 3) := by decide +kernel
theorem dX3_holySet_31 : decode cX3_holySet 31 = .ok (.ifCond .eq 9, 3) := by decide +kernel
theorem dX3_holySet_34 : decode cX3_holySet 34 = .ok (.iload_n 2, 1) := by decide +kernel
theorem dX3_holySet_35 : decode cX3_holySet 35 = .ok (.iconst 1, 1) := by decide +kernel
theorem dX3_holySet_36 : decode cX3_holySet 36 = .ok (.iload_n 3, 1) := by decide +kernel
theorem dX3_holySet_37 : decode cX3_holySet 37 = .ok (.ishl, 1) := by decide +kernel
theorem dX3_holySet_38 : decode cX3_holySet 38 = .ok (.ior, 1) := by decide +kernel
theorem dX3_holySet_39 : decode cX3_holySet 39 = .ok (.istore_n 2, 1) := by decide +kernel
theorem dX3_holySet_40 : decode cX3_holySet 40 = .ok (.iinc 3 1, 3) := by decide +kernel
theorem dX3_holySet_43 : decode cX3_holySet 43 = .ok (.goto (-39), 3) := by decide +kernel
theorem dX3_holySet_46 : decode cX3_holySet 46 = .ok (.iload_n 2, 1) := by decide +kernel
theorem dX3_holySet_47 : decode cX3_holySet 47 = .ok (.ireturn, 1) := by decide +kernel
theorem dX3_takeJug_0 : decode cX3_takeJug 0 = .ok (.iload_n 1, 1) := by decide +kernel
theorem dX3_takeJug_1 : decode cX3_takeJug 1 = .ok (.ifCond .eq 22, 3) := by decide +kernel
theorem dX3_takeJug_4 : decode cX3_takeJug 4 = .ok (.aload_n 0, 1) := by decide +kernel
theorem dX3_takeJug_5 : decode cX3_takeJug 5 = .ok (.getfield 35, 3) := by decide +kernel
theorem dX3_takeJug_8 : decode cX3_takeJug 8 = .ok (.ifCond .le 15, 3) := by decide +kernel
theorem dX3_takeJug_11 : decode cX3_takeJug 11 = .ok (.aload_n 0, 1) := by decide +kernel
theorem dX3_takeJug_12 : decode cX3_takeJug 12 = .ok (.dup, 1) := by decide +kernel
theorem dX3_takeJug_13 : decode cX3_takeJug 13 = .ok (.getfield 35, 3) := by decide +kernel
theorem dX3_takeJug_16 : decode cX3_takeJug 16 = .ok (.iconst 1, 1) := by decide +kernel
theorem dX3_takeJug_17 : decode cX3_takeJug 17 = .ok (.isub, 1) := by decide +kernel
theorem dX3_takeJug_18 : decode cX3_takeJug 18 = .ok (.putfield 35, 3) := by decide +kernel
theorem dX3_takeJug_21 : decode cX3_takeJug 21 = .ok (.iconst 1, 1) := by decide +kernel
theorem dX3_takeJug_22 : decode cX3_takeJug 22 = .ok (.ireturn, 1) := by decide +kernel
theorem dX3_takeJug_23 : decode cX3_takeJug 23 = .ok (.iload_n 1, 1) := by decide +kernel
theorem dX3_takeJug_24 : decode cX3_takeJug 24 = .ok (.ifCond .ne 22, 3) := by decide +kernel
theorem dX3_takeJug_27 : decode cX3_takeJug 27 = .ok (.aload_n 0, 1) := by decide +kernel
theorem dX3_takeJug_28 : decode cX3_takeJug 28 = .ok (.getfield 38, 3) := by decide +kernel
theorem dX3_takeJug_31 : decode cX3_takeJug 31 = .ok (.ifCond .le 15, 3) := by decide +kernel
theorem dX3_takeJug_34 : decode cX3_takeJug 34 = .ok (.aload_n 0, 1) := by decide +kernel
theorem dX3_takeJug_35 : decode cX3_takeJug 35 = .ok (.dup, 1) := by decide +kernel
theorem dX3_takeJug_36 : decode cX3_takeJug 36 = .ok (.getfield 38, 3) := by decide +kernel
theorem dX3_takeJug_39 : decode cX3_takeJug 39 = .ok (.iconst 1, 1) := by decide +kernel
theorem dX3_takeJug_40 : decode cX3_takeJug 40 = .ok (.isub, 1) := by decide +kernel
theorem dX3_takeJug_41 : decode cX3_takeJug 41 = .ok (.putfield 38, 3) := by decide +kernel
theorem dX3_takeJug_44 : decode cX3_takeJug 44 = .ok (.iconst 1, 1) := by decide +kernel
theorem dX3_takeJug_45 : decode cX3_takeJug 45 = .ok (.ireturn, 1) := by decide +kernel
theorem dX3_takeJug_46 : decode cX3_takeJug 46 = .ok (.iconst 0, 1) := by decide +kernel
theorem dX3_takeJug_47 : decode cX3_takeJug 47 = .ok (.ireturn, 1) := by decide +kernel
theorem dX3_passDay_0 : decode cX3_passDay 0 = .ok (.aload_n 0, 1) := by decide +kernel
theorem dX3_passDay_1 : decode cX3_passDay 1 = .ok (.aload_n 0, 1) := by decide +kernel
theorem dX3_passDay_2 : decode cX3_passDay 2 = .ok (.getfield 29, 3) := by decide +kernel
theorem dX3_passDay_5 : decode cX3_passDay 5 = .ok (.invokevirtual 70, 3) := by decide +kernel
theorem dX3_passDay_8 : decode cX3_passDay 8 = .ok (.istore_n 1, 1) := by decide +kernel
theorem dX3_passDay_9 : decode cX3_passDay 9 = .ok (.iconst 0, 1) := by decide +kernel
theorem dX3_passDay_10 : decode cX3_passDay 10 = .ok (.istore_n 2, 1) := by decide +kernel
theorem dX3_passDay_11 : decode cX3_passDay 11 = .ok (.iload_n 2, 1) := by decide +kernel
theorem dX3_passDay_12 : decode cX3_passDay 12 = .ok (.aload_n 0, 1) := by decide +kernel
theorem dX3_passDay_13 : decode cX3_passDay 13 = .ok (.getfield 44, 3) := by decide +kernel
theorem dX3_passDay_16 : decode cX3_passDay 16 = .ok (.if_icmp .ge 36, 3) := by decide +kernel
theorem dX3_passDay_19 : decode cX3_passDay 19 = .ok (.iload_n 2, 1) := by decide +kernel
theorem dX3_passDay_20 : decode cX3_passDay 20 = .ok (.aload_n 0, 1) := by decide +kernel
theorem dX3_passDay_21 : decode cX3_passDay 21 = .ok (.getfield 23, 3) := by decide +kernel
theorem dX3_passDay_24 : decode cX3_passDay 24 = .ok (.arraylength, 1) := by decide +kernel
theorem dX3_passDay_25 : decode cX3_passDay 25 = .ok (.if_icmp .ge 27, 3) := by decide +kernel
theorem dX3_passDay_28 : decode cX3_passDay 28 = .ok (.aload_n 0, 1) := by decide +kernel
theorem dX3_passDay_29 : decode cX3_passDay 29 = .ok (.getfield 23, 3) := by decide +kernel
theorem dX3_passDay_32 : decode cX3_passDay 32 = .ok (.iload_n 2, 1) := by decide +kernel
theorem dX3_passDay_33 : decode cX3_passDay 33 = .ok (.aaload, 1) := by decide +kernel
theorem dX3_passDay_34 : decode cX3_passDay 34 = .ok (.iload_n 1, 1) := by decide +kernel
theorem dX3_passDay_35 : decode cX3_passDay 35 = .ok (.aload_n 0, 1) := by decide +kernel
theorem dX3_passDay_36 : decode cX3_passDay 36 = .ok (.getfield 32, 3) := by decide +kernel
theorem dX3_passDay_39 : decode cX3_passDay 39 = .ok (.aload_n 0, 1) := by decide +kernel
theorem dX3_passDay_40 : decode cX3_passDay 40 = .ok (.getfield 9, 3) := by decide +kernel
theorem dX3_passDay_43 : decode cX3_passDay 43 = .ok (.invokevirtual 74, 3) := by decide +kernel
theorem dX3_passDay_46 : decode cX3_passDay 46 = .ok (.iinc 2 1, 3) := by decide +kernel
theorem dX3_passDay_49 : decode cX3_passDay 49 = .ok (.goto (-38), 3) := by decide +kernel
theorem dX3_passDay_52 : decode cX3_passDay 52 = .ok (.aload_n 0, 1) := by decide +kernel
theorem dX3_passDay_53 : decode cX3_passDay 53 = .ok (.getfield 29, 3) := by decide +kernel
theorem dX3_passDay_56 : decode cX3_passDay 56 = .ok (.bipush 7, 2) := by decide +kernel
theorem dX3_passDay_58 : decode cX3_passDay 58 = .ok (.irem, 1) := by decide +kernel
theorem dX3_passDay_59 : decode cX3_passDay 59 = .ok (.iconst 2, 1) := by decide +kernel
theorem dX3_passDay_60 : decode cX3_passDay 60 = .ok (.if_icmp .ne 15, 3) := by decide +kernel
theorem dX3_passDay_63 : decode cX3_passDay 63 = .ok (.aload_n 0, 1) := by decide +kernel
theorem dX3_passDay_64 : decode cX3_passDay 64 = .ok (.iload_n 1, 1) := by decide +kernel
theorem dX3_passDay_65 : decode cX3_passDay 65 = .ok (.aload_n 0, 1) := by decide +kernel
theorem dX3_passDay_66 : decode cX3_passDay 66 = .ok (.getfield 32, 3) := by decide +kernel
theorem dX3_passDay_69 : decode cX3_passDay 69 = .ok (.invokestatic 78, 3) := by decide +kernel
theorem dX3_passDay_72 : decode cX3_passDay 72 = .ok (.invokevirtual 82, 3) := by decide +kernel
theorem dX3_passDay_75 : decode cX3_passDay 75 = .ok (.aload_n 0, 1) := by decide +kernel
theorem dX3_passDay_76 : decode cX3_passDay 76 = .ok (.dup, 1) := by decide +kernel
theorem dX3_passDay_77 : decode cX3_passDay 77 = .ok (.getfield 29, 3) := by decide +kernel
theorem dX3_passDay_80 : decode cX3_passDay 80 = .ok (.iconst 1, 1) := by decide +kernel
theorem dX3_passDay_81 : decode cX3_passDay 81 = .ok (.iadd, 1) := by decide +kernel
theorem dX3_passDay_82 : decode cX3_passDay 82 = .ok (.putfield 29, 3) := by decide +kernel
theorem dX3_passDay_85 : decode cX3_passDay 85 = .ok (.return_, 1) := by decide +kernel
theorem dX3_drawJug_0 : decode cX3_drawJug 0 = .ok (.iload_n 1, 1) := by decide +kernel
theorem dX3_drawJug_1 : decode cX3_drawJug 1 = .ok (.ifCond .eq 21, 3) := by decide +kernel
theorem dX3_drawJug_4 : decode cX3_drawJug 4 = .ok (.aload_n 0, 1) := by decide +kernel
theorem dX3_drawJug_5 : decode cX3_drawJug 5 = .ok (.bipush 99, 2) := by decide +kernel
theorem dX3_drawJug_7 : decode cX3_drawJug 7 = .ok (.aload_n 0, 1) := by decide +kernel
theorem dX3_drawJug_8 : decode cX3_drawJug 8 = .ok (.getfield 35, 3) := by decide +kernel
theorem dX3_drawJug_11 : decode cX3_drawJug 11 = .ok (.iconst 1, 1) := by decide +kernel
theorem dX3_drawJug_12 : decode cX3_drawJug 12 = .ok (.iadd, 1) := by decide +kernel
theorem dX3_drawJug_13 : decode cX3_drawJug 13 = .ok (.invokestatic 86, 3) := by decide +kernel
theorem dX3_drawJug_16 : decode cX3_drawJug 16 = .ok (.putfield 35, 3) := by decide +kernel
theorem dX3_drawJug_19 : decode cX3_drawJug 19 = .ok (.goto 18, 3) := by decide +kernel
theorem dX3_drawJug_22 : decode cX3_drawJug 22 = .ok (.aload_n 0, 1) := by decide +kernel
theorem dX3_drawJug_23 : decode cX3_drawJug 23 = .ok (.bipush 99, 2) := by decide +kernel
theorem dX3_drawJug_25 : decode cX3_drawJug 25 = .ok (.aload_n 0, 1) := by decide +kernel
theorem dX3_drawJug_26 : decode cX3_drawJug 26 = .ok (.getfield 38, 3) := by decide +kernel
theorem dX3_drawJug_29 : decode cX3_drawJug 29 = .ok (.iconst 1, 1) := by decide +kernel
theorem dX3_drawJug_30 : decode cX3_drawJug 30 = .ok (.iadd, 1) := by decide +kernel
theorem dX3_drawJug_31 : decode cX3_drawJug 31 = .ok (.invokestatic 86, 3) := by decide +kernel
theorem dX3_drawJug_34 : decode cX3_drawJug 34 = .ok (.putfield 38, 3) := by decide +kernel
theorem dX3_drawJug_37 : decode cX3_drawJug 37 = .ok (.return_, 1) := by decide +kernel
theorem dX3_wellSet_0 : decode cX3_wellSet 0 = .ok (.iconst 0, 1) := by decide +kernel
theorem dX3_wellSet_1 : decode cX3_wellSet 1 = .ok (.istore_n 1, 1) := by decide +kernel
theorem dX3_wellSet_2 : decode cX3_wellSet 2 = .ok (.iconst 0, 1) := by decide +kernel
theorem dX3_wellSet_3 : decode cX3_wellSet 3 = .ok (.istore_n 2, 1) := by decide +kernel
theorem dX3_wellSet_4 : decode cX3_wellSet 4 = .ok (.iload_n 2, 1) := by decide +kernel
theorem dX3_wellSet_5 : decode cX3_wellSet 5 = .ok (.aload_n 0, 1) := by decide +kernel
theorem dX3_wellSet_6 : decode cX3_wellSet 6 = .ok (.getfield 44, 3) := by decide +kernel
theorem dX3_wellSet_9 : decode cX3_wellSet 9 = .ok (.if_icmp .ge 36, 3) := by decide +kernel
theorem dX3_wellSet_12 : decode cX3_wellSet 12 = .ok (.iload_n 2, 1) := by decide +kernel
theorem dX3_wellSet_13 : decode cX3_wellSet 13 = .ok (.aload_n 0, 1) := by decide +kernel
theorem dX3_wellSet_14 : decode cX3_wellSet 14 = .ok (.getfield 23, 3) := by decide +kernel
theorem dX3_wellSet_17 : decode cX3_wellSet 17 = .ok (.arraylength, 1) := by decide +kernel
theorem dX3_wellSet_18 : decode cX3_wellSet 18 = .ok (.if_icmp .ge 27, 3) := by decide +kernel
theorem dX3_wellSet_21 : decode cX3_wellSet 21 = .ok (.aload_n 0, 1) := by decide +kernel
theorem dX3_wellSet_22 : decode cX3_wellSet 22 = .ok (.getfield 23, 3) := by decide +kernel
theorem dX3_wellSet_25 : decode cX3_wellSet 25 = .ok (.iload_n 2, 1) := by decide +kernel
theorem dX3_wellSet_26 : decode cX3_wellSet 26 = .ok (.aaload, 1) := by decide +kernel
theorem dX3_wellSet_27 : decode cX3_wellSet 27 = .ok (.getfield 92, 3) := by decide +kernel
theorem dX3_wellSet_30 : decode cX3_wellSet 30 = .ok (.ifCond .ne 9, 3) := by decide +kernel
theorem dX3_wellSet_33 : decode cX3_wellSet 33 = .ok (.iload_n 1, 1) := by decide +kernel
theorem dX3_wellSet_34 : decode cX3_wellSet 34 = .ok (.iconst 1, 1) := by decide +kernel
theorem dX3_wellSet_35 : decode cX3_wellSet 35 = .ok (.iload_n 2, 1) := by decide +kernel
theorem dX3_wellSet_36 : decode cX3_wellSet 36 = .ok (.ishl, 1) := by decide +kernel
theorem dX3_wellSet_37 : decode cX3_wellSet 37 = .ok (.ior, 1) := by decide +kernel
theorem dX3_wellSet_38 : decode cX3_wellSet 38 = .ok (.istore_n 1, 1) := by decide +kernel
theorem dX3_wellSet_39 : decode cX3_wellSet 39 = .ok (.iinc 2 1, 3) := by decide +kernel
theorem dX3_wellSet_42 : decode cX3_wellSet 42 = .ok (.goto (-38), 3) := by decide +kernel
theorem dX3_wellSet_45 : decode cX3_wellSet 45 = .ok (.iload_n 1, 1) := by decide +kernel
theorem dX3_wellSet_46 : decode cX3_wellSet 46 = .ok (.ireturn, 1) := by decide +kernel
theorem dX3_illOfAll_0 : decode cX3_illOfAll 0 = .ok (.iconst 0, 1) := by decide +kernel
theorem dX3_illOfAll_1 : decode cX3_illOfAll 1 = .ok (.istore_n 1, 1) := by decide +kernel
theorem dX3_illOfAll_2 : decode cX3_illOfAll 2 = .ok (.iconst 0, 1) := by decide +kernel
theorem dX3_illOfAll_3 : decode cX3_illOfAll 3 = .ok (.istore_n 2, 1) := by decide +kernel
theorem dX3_illOfAll_4 : decode cX3_illOfAll 4 = .ok (.iload_n 2, 1) := by decide +kernel
theorem dX3_illOfAll_5 : decode cX3_illOfAll 5 = .ok (.aload_n 0, 1) := by decide +kernel
theorem dX3_illOfAll_6 : decode cX3_illOfAll 6 = .ok (.getfield 44, 3) := by decide +kernel
theorem dX3_illOfAll_9 : decode cX3_illOfAll 9 = .ok (.if_icmp .ge 30, 3) := by decide +kernel
theorem dX3_illOfAll_12 : decode cX3_illOfAll 12 = .ok (.iload_n 2, 1) := by decide +kernel
theorem dX3_illOfAll_13 : decode cX3_illOfAll 13 = .ok (.aload_n 0, 1) := by decide +kernel
theorem dX3_illOfAll_14 : decode cX3_illOfAll 14 = .ok (.getfield 23, 3) := by decide +kernel
theorem dX3_illOfAll_17 : decode cX3_illOfAll 17 = .ok (.arraylength, 1) := by decide +kernel
theorem dX3_illOfAll_18 : decode cX3_illOfAll 18 = .ok (.if_icmp .ge 21, 3) := by decide +kernel
theorem dX3_illOfAll_21 : decode cX3_illOfAll 21 = .ok (.iload_n 1, 1) := by decide +kernel
theorem dX3_illOfAll_22 : decode cX3_illOfAll 22 = .ok (.aload_n 0, 1) := by decide +kernel
theorem dX3_illOfAll_23 : decode cX3_illOfAll 23 = .ok (.getfield 23, 3) := by decide +kernel
theorem dX3_illOfAll_26 : decode cX3_illOfAll 26 = .ok (.iload_n 2, 1) := by decide +kernel
theorem dX3_illOfAll_27 : decode cX3_illOfAll 27 = .ok (.aaload, 1) := by decide +kernel
theorem dX3_illOfAll_28 : decode cX3_illOfAll 28 = .ok (.getfield 92, 3) := by decide +kernel
theorem dX3_illOfAll_31 : decode cX3_illOfAll 31 = .ok (.iadd, 1) := by decide +kernel
theorem dX3_illOfAll_32 : decode cX3_illOfAll 32 = .ok (.istore_n 1, 1) := by decide +kernel
theorem dX3_illOfAll_33 : decode cX3_illOfAll 33 = .ok (.iinc 2 1, 3) := by decide +kernel
theorem dX3_illOfAll_36 : decode cX3_illOfAll 36 = .ok (.goto (-32), 3) := by decide +kernel
theorem dX3_illOfAll_39 : decode cX3_illOfAll 39 = .ok (.iload_n 1, 1) := by decide +kernel
theorem dX3_illOfAll_40 : decode cX3_illOfAll 40 = .ok (.ireturn, 1) := by decide +kernel
theorem dX3_bathedOfAll_0 : decode cX3_bathedOfAll 0 = .ok (.iconst 0, 1) := by decide +kernel
theorem dX3_bathedOfAll_1 : decode cX3_bathedOfAll 1 = .ok (.istore_n 1, 1) := by decide +kernel
theorem dX3_bathedOfAll_2 : decode cX3_bathedOfAll 2 = .ok (.iconst 0, 1) := by decide +kernel
theorem dX3_bathedOfAll_3 : decode cX3_bathedOfAll 3 = .ok (.istore_n 2, 1) := by decide +kernel
theorem dX3_bathedOfAll_4 : decode cX3_bathedOfAll 4 = .ok (.iload_n 2, 1) := by decide +kernel
theorem dX3_bathedOfAll_5 : decode cX3_bathedOfAll 5 = .ok (.aload_n 0, 1) := by decide +kernel
theorem dX3_bathedOfAll_6 : decode cX3_bathedOfAll 6 = .ok (.getfield 44, 3) := by decide +kernel
theorem dX3_bathedOfAll_9 : decode cX3_bathedOfAll 9 = .ok (.if_icmp .ge 30, 3) := by decide +kernel
theorem dX3_bathedOfAll_12 : decode cX3_bathedOfAll 12 = .ok (.iload_n 2, 1) := by decide +kernel
theorem dX3_bathedOfAll_13 : decode cX3_bathedOfAll 13 = .ok (.aload_n 0, 1) := by decide +kernel
theorem dX3_bathedOfAll_14 : decode cX3_bathedOfAll 14 = .ok (.getfield 23, 3) := by decide +kernel
theorem dX3_bathedOfAll_17 : decode cX3_bathedOfAll 17 = .ok (.arraylength, 1) := by decide +kernel
theorem dX3_bathedOfAll_18 : decode cX3_bathedOfAll 18 = .ok (.if_icmp .ge 21, 3) := by decide +kernel
theorem dX3_bathedOfAll_21 : decode cX3_bathedOfAll 21 = .ok (.iload_n 1, 1) := by decide +kernel
theorem dX3_bathedOfAll_22 : decode cX3_bathedOfAll 22 = .ok (.aload_n 0, 1) := by decide +kernel
theorem dX3_bathedOfAll_23 : decode cX3_bathedOfAll 23 = .ok (.getfield 23, 3) := by decide +kernel
theorem dX3_bathedOfAll_26 : decode cX3_bathedOfAll 26 = .ok (.iload_n 2, 1) := by decide +kernel
theorem dX3_bathedOfAll_27 : decode cX3_bathedOfAll 27 = .ok (.aaload, 1) := by decide +kernel
theorem dX3_bathedOfAll_28 : decode cX3_bathedOfAll 28 = .ok (.getfield 95, 3) := by decide +kernel
theorem dX3_bathedOfAll_31 : decode cX3_bathedOfAll 31 = .ok (.iadd, 1) := by decide +kernel
theorem dX3_bathedOfAll_32 : decode cX3_bathedOfAll 32 = .ok (.istore_n 1, 1) := by decide +kernel
theorem dX3_bathedOfAll_33 : decode cX3_bathedOfAll 33 = .ok (.iinc 2 1, 3) := by decide +kernel
theorem dX3_bathedOfAll_36 : decode cX3_bathedOfAll 36 = .ok (.goto (-32), 3) := by decide +kernel
theorem dX3_bathedOfAll_39 : decode cX3_bathedOfAll 39 = .ok (.iload_n 1, 1) := by decide +kernel
theorem dX3_bathedOfAll_40 : decode cX3_bathedOfAll 40 = .ok (.ireturn, 1) := by decide +kernel
theorem dX4_init_0 : decode cX4_init 0 = .ok (.aload_n 0, 1) := by decide +kernel
theorem dX4_init_1 : decode cX4_init 1 = .ok (.invokespecial 3, 3) := by decide +kernel
theorem dX4_init_4 : decode cX4_init 4 = .ok (.aload_n 0, 1) := by decide +kernel
theorem dX4_init_5 : decode cX4_init 5 = .ok (.bipush 120, 2) := by decide +kernel
theorem dX4_init_7 : decode cX4_init 7 = .ok (.newarray .byte, 2) := by decide +kernel
theorem dX4_init_9 : decode cX4_init 9 = .ok (.putfield 9, 3) := by decide +kernel
theorem dX4_init_12 : decode cX4_init 12 = .ok (.aload_n 0, 1) := by decide +kernel
theorem dX4_init_13 : decode cX4_init 13 = .ok (.new 15, 3) := by decide +kernel
theorem dX4_init_16 : decode cX4_init 16 = .ok (.dup, 1) := by decide +kernel
theorem dX4_init_17 : decode cX4_init 17 = .ok (.invokespecial 17, 3) := by decide +kernel
theorem dX4_init_20 : decode cX4_init 20 = .ok (.putfield 18, 3) := by decide +kernel
theorem dX4_init_23 : decode cX4_init 23 = .ok (.return_, 1) := by decide +kernel
theorem dX4_add_0 : decode cX4_add 0 = .ok (.aload_n 0, 1) := by decide +kernel
theorem dX4_add_1 : decode cX4_add 1 = .ok (.getfield 22, 3) := by decide +kernel
theorem dX4_add_4 : decode cX4_add 4 = .ok (.aload_n 0, 1) := by decide +kernel
theorem dX4_add_5 : decode cX4_add 5 = .ok (.getfield 9, 3) := by decide +kernel
theorem dX4_add_8 : decode cX4_add 8 = .ok (.arraylength, 1) := by decide +kernel
theorem dX4_add_9 : decode cX4_add 9 = .ok (.if_icmp .ge 23, 3) := by decide +kernel
theorem dX4_add_12 : decode cX4_add 12 = .ok (.aload_n 0, 1) := by decide +kernel
theorem dX4_add_13 : decode cX4_add 13 = .ok (.getfield 9, 3) := by decide +kernel
theorem dX4_add_16 : decode cX4_add 16 = .ok (.aload_n 0, 1) := by decide +kernel
theorem dX4_add_17 : decode cX4_add 17 = .ok (.getfield 22, 3) := by decide +kernel
theorem dX4_add_20 : decode cX4_add 20 = .ok (.iload_n 1, 1) := by decide +kernel
theorem dX4_add_21 : decode cX4_add 21 = .ok (.bastore, 1) := by decide +kernel
theorem dX4_add_22 : decode cX4_add 22 = .ok (.aload_n 0, 1) := by decide +kernel
theorem dX4_add_23 : decode cX4_add 23 = .ok (.dup, 1) := by decide +kernel
theorem dX4_add_24 : decode cX4_add 24 = .ok (.getfield 22, 3) := by decide +kernel
theorem dX4_add_27 : decode cX4_add 27 = .ok (.iconst 1, 1) := by decide +kernel
theorem dX4_add_28 : decode cX4_add 28 = .ok (.iadd, 1) := by decide +kernel
theorem dX4_add_29 : decode cX4_add 29 = .ok (.putfield 22, 3) := by decide +kernel
theorem dX4_add_32 : decode cX4_add 32 = .ok (.return_, 1) := by decide +kernel
theorem dX4_tell_0 : decode cX4_tell 0 = .ok (.aload_n 0, 1) := by decide +kernel
theorem dX4_tell_1 : decode cX4_tell 1 = .ok (.getfield 18, 3) := by decide +kernel
theorem dX4_tell_4 : decode cX4_tell 4 = .ok (.aload_n 1, 1) := by decide +kernel
theorem dX4_tell_5 : decode cX4_tell 5 = .ok (.invokevirtual 26, 3) := by decide +kernel
theorem dX4_tell_8 : decode cX4_tell 8 = .ok (.aload_n 0, 1) := by decide +kernel
theorem dX4_tell_9 : decode cX4_tell 9 = .ok (.iconst 0, 1) := by decide +kernel
theorem dX4_tell_10 : decode cX4_tell 10 = .ok (.putfield 30, 3) := by decide +kernel
theorem dX4_tell_13 : decode cX4_tell 13 = .ok (.iconst 1, 1) := by decide +kernel
theorem dX4_tell_14 : decode cX4_tell 14 = .ok (.istore_n 2, 1) := by decide +kernel
theorem dX4_tell_15 : decode cX4_tell 15 = .ok (.iload_n 2, 1) := by decide +kernel
theorem dX4_tell_16 : decode cX4_tell 16 = .ok (.bipush 120, 2) := by decide +kernel
theorem dX4_tell_18 : decode cX4_tell 18 = .ok (.if_icmp .gt 51, 3) := by decide +kernel
theorem dX4_tell_21 : decode cX4_tell 21 = .ok (.aload_n 0, 1) := by decide +kernel
theorem dX4_tell_22 : decode cX4_tell 22 = .ok (.invokevirtual 33, 3) := by decide +kernel
theorem dX4_tell_25 : decode cX4_tell 25 = .ok (.aload_n 0, 1) := by decide +kernel
theorem dX4_tell_26 : decode cX4_tell 26 = .ok (.invokevirtual 36, 3) := by decide +kernel
theorem dX4_tell_29 : decode cX4_tell 29 = .ok (.ifCond .ne 10, 3) := by decide +kernel
theorem dX4_tell_32 : decode cX4_tell 32 = .ok (.iconst (-1), 1) := by decide +kernel
theorem dX4_tell_33 : decode cX4_tell 33 = .ok (.aload_n 0, 1) := by decide +kernel
theorem dX4_tell_34 : decode cX4_tell 34 = .ok (.getfield 40, 3) := by decide +kernel
theorem dX4_tell_37 : decode cX4_tell 37 = .ok (.isub, 1) := by decide +kernel
theorem dX4_tell_38 : decode cX4_tell 38 = .ok (.ireturn, 1) := by decide +kernel
theorem dX4_tell_39 : decode cX4_tell 39 = .ok (.aload_n 0, 1) := by decide +kernel
theorem dX4_tell_40 : decode cX4_tell 40 = .ok (.getfield 43, 3) := by decide +kernel
theorem dX4_tell_43 : decode cX4_tell 43 = .ok (.ifCond .ne 5, 3) := by decide +kernel
theorem dX4_tell_46 : decode cX4_tell 46 = .ok (.iload_n 2, 1) := by decide +kernel
theorem dX4_tell_47 : decode cX4_tell 47 = .ok (.ireturn, 1) := by decide +kernel
theorem dX4_tell_48 : decode cX4_tell 48 = .ok (.aload_n 0, 1) := by decide +kernel
theorem dX4_tell_49 : decode cX4_tell 49 = .ok (.getfield 43, 3) := by decide +kernel
theorem dX4_tell_52 : decode cX4_tell 52 = .ok (.iconst 3, 1) := by decide +kernel
theorem dX4_tell_53 : decode cX4_tell 53 = .ok (.if_icmp .eq 10, 3) := by decide +kernel
theorem dX4_tell_56 : decode cX4_tell 56 = .ok (.iconst (-1), 1) := by decide +kernel
theorem dX4_tell_57 : decode cX4_tell 57 = .ok (.aload_n 0, 1) := by decide +kernel
theorem dX4_tell_58 : decode cX4_tell 58 = .ok (.getfield 40, 3) := by decide +kernel
theorem dX4_tell_61 : decode cX4_tell 61 = .ok (.isub, 1) := by decide +kernel
theorem dX4_tell_62 : decode cX4_tell 62 = .ok (.ireturn, 1) := by decide +kernel
theorem dX4_tell_63 : decode cX4_tell 63 = .ok (.iinc 2 1, 3) := by decide +kernel
theorem dX4_tell_66 : decode cX4_tell 66 = .ok (.goto (-51), 3) := by decide +kernel
theorem dX4_tell_69 : decode cX4_tell 69 = .ok (.iconst (-1), 1) := by decide +kernel
theorem dX4_tell_70 : decode cX4_tell 70 = .ok (.aload_n 0, 1) := by decide +kernel
theorem dX4_tell_71 : decode cX4_tell 71 = .ok (.getfield 22, 3) := by decide +kernel
theorem dX4_tell_74 : decode cX4_tell 74 = .ok (.isub, 1) := by decide +kernel
theorem dX4_tell_75 : decode cX4_tell 75 = .ok (.ireturn, 1) := by decide +kernel
theorem dX4_tellItem_0 : decode cX4_tellItem 0 = .ok (.aload_n 0, 1) := by decide +kernel
theorem dX4_tellItem_1 : decode cX4_tellItem 1 = .ok (.ldc 46, 2) := by decide +kernel
theorem dX4_tellItem_3 : decode cX4_tellItem 3 = .ok (.invokevirtual 48, 3) := by decide +kernel
theorem dX4_tellItem_6 : decode cX4_tellItem 6 = .ok (.ifCond .eq 8, 3) := by decide +kernel
theorem dX4_tellItem_9 : decode cX4_tellItem 9 = .ok (.aload_n 0, 1) := by decide +kernel
theorem dX4_tellItem_10 : decode cX4_tellItem 10 = .ok (.invokevirtual 52, 3) := by decide +kernel
theorem dX4_tellItem_13 : decode cX4_tellItem 13 = .ok (.ireturn, 1) := by decide +kernel
theorem dX4_tellItem_14 : decode cX4_tellItem 14 = .ok (.aload_n 0, 1) := by decide +kernel
theorem dX4_tellItem_15 : decode cX4_tellItem 15 = .ok (.ldc 55, 2) := by decide +kernel
theorem dX4_tellItem_17 : decode cX4_tellItem 17 = .ok (.invokevirtual 48, 3) := by decide +kernel
theorem dX4_tellItem_20 : decode cX4_tellItem 20 = .ok (.ifCond .eq 8, 3) := by decide +kernel
theorem dX4_tellItem_23 : decode cX4_tellItem 23 = .ok (.aload_n 0, 1) := by decide +kernel
theorem dX4_tellItem_24 : decode cX4_tellItem 24 = .ok (.invokevirtual 57, 3) := by decide +kernel
theorem dX4_tellItem_27 : decode cX4_tellItem 27 = .ok (.ireturn, 1) := by decide +kernel
theorem dX4_tellItem_28 : decode cX4_tellItem 28 = .ok (.aload_n 0, 1) := by decide +kernel
theorem dX4_tellItem_29 : decode cX4_tellItem 29 = .ok (.ldc 60, 2) := by decide +kernel
theorem dX4_tellItem_31 : decode cX4_tellItem 31 = .ok (.invokevirtual 48, 3) := by decide +kernel
theorem dX4_tellItem_34 : decode cX4_tellItem 34 = .ok (.ifCond .eq 8, 3) := by decide +kernel
theorem dX4_tellItem_37 : decode cX4_tellItem 37 = .ok (.aload_n 0, 1) := by decide +kernel
theorem dX4_tellItem_38 : decode cX4_tellItem 38 = .ok (.invokevirtual 62, 3) := by decide +kernel
theorem dX4_tellItem_41 : decode cX4_tellItem 41 = .ok (.ireturn, 1) := by decide +kernel
theorem dX4_tellItem_42 : decode cX4_tellItem 42 = .ok (.aload_n 0, 1) := by decide +kernel
theorem dX4_tellItem_43 : decode cX4_tellItem 43 = .ok (.invokevirtual 65, 3) := by decide +kernel
theorem dX4_tellItem_46 : decode cX4_tellItem 46 = .ok (.ireturn, 1) := by decide +kernel
theorem dX4_tellTruth_0 : decode cX4_tellTruth 0 = .ok (.aload_n 0, 1) := by decide +kernel
theorem dX4_tellTruth_1 : decode cX4_tellTruth 1 = .ok (.invokevirtual 33, 3) := by decide +kernel
theorem dX4_tellTruth_4 : decode cX4_tellTruth 4 = .ok (.aload_n 0, 1) := by decide +kernel
theorem dX4_tellTruth_5 : decode cX4_tellTruth 5 = .ok (.iconst 0, 1) := by decide +kernel
theorem dX4_tellTruth_6 : decode cX4_tellTruth 6 = .ok (.iconst 5, 1) := by decide +kernel
theorem dX4_tellTruth_7 : decode cX4_tellTruth 7 = .ok (.invokevirtual 68, 3) := by decide +kernel
theorem dX4_tellTruth_10 : decode cX4_tellTruth 10 = .ok (.ifCond .ne 5, 3) := by decide +kernel
theorem dX4_tellTruth_13 : decode cX4_tellTruth 13 = .ok (.iconst 0, 1) := by decide +kernel
theorem dX4_tellTruth_14 : decode cX4_tellTruth 14 = .ok (.ireturn, 1) := by decide +kernel
theorem dX4_tellTruth_15 : decode cX4_tellTruth 15 = .ok (.aload_n 0, 1) := by decide +kernel
theorem dX4_tellTruth_16 : decode cX4_tellTruth 16 = .ok (.getfield 18, 3) := by decide +kernel
theorem dX4_tellTruth_19 : decode cX4_tellTruth 19 = .ok (.aload_n 0, 1) := by decide +kernel
theorem dX4_tellTruth_20 : decode cX4_tellTruth 20 = .ok (.getfield 72, 3) := by decide +kernel
theorem dX4_tellTruth_23 : decode cX4_tellTruth 23 = .ok (.putfield 75, 3) := by decide +kernel
theorem dX4_tellTruth_26 : decode cX4_tellTruth 26 = .ok (.aload_n 0, 1) := by decide +kernel
theorem dX4_tellTruth_27 : decode cX4_tellTruth 27 = .ok (.invokevirtual 33, 3) := by decide +kernel
theorem dX4_tellTruth_30 : decode cX4_tellTruth 30 = .ok (.iconst 1, 1) := by decide +kernel
theorem dX4_tellTruth_31 : decode cX4_tellTruth 31 = .ok (.ireturn, 1) := by decide +kernel
theorem dX4_tellPower_0 : decode cX4_tellPower 0 = .ok (.aload_n 0, 1) := by decide +kernel
theorem dX4_tellPower_1 : decode cX4_tellPower 1 = .ok (.invokevirtual 33, 3) := by decide +kernel
theorem dX4_tellPower_4 : decode cX4_tellPower 4 = .ok (.aload_n 0, 1) := by decide +kernel
theorem dX4_tellPower_5 : decode cX4_tellPower 5 = .ok (.iconst 1, 1) := by decide +kernel
theorem dX4_tellPower_6 : decode cX4_tellPower 6 = .ok (.bipush 50, 2) := by decide +kernel
theorem dX4_tellPower_8 : decode cX4_tellPower 8 = .ok (.invokevirtual 68, 3) := by decide +kernel
theorem dX4_tellPower_11 : decode cX4_tellPower 11 = .ok (.ifCond .ne 5, 3) := by decide +kernel
theorem dX4_tellPower_14 : decode cX4_tellPower 14 = .ok (.iconst 0, 1) := by decide +kernel
theorem dX4_tellPower_15 : decode cX4_tellPower 15 = .ok (.ireturn, 1) := by decide +kernel
theorem dX4_tellPower_16 : decode cX4_tellPower 16 = .ok (.aload_n 0, 1) := by decide +kernel
theorem dX4_tellPower_17 : decode cX4_tellPower 17 = .ok (.getfield 18, 3) := by decide +kernel
theorem dX4_tellPower_20 : decode cX4_tellPower 20 = .ok (.aload_n 0, 1) := by decide +kernel
theorem dX4_tellPower_21 : decode cX4_tellPower 21 = .ok (.getfield 72, 3) := by decide +kernel
theorem dX4_tellPower_24 : decode cX4_tellPower 24 = .ok (.putfield 77, 3) := by decide +kernel
theorem dX4_tellPower_27 : decode cX4_tellPower 27 = .ok (.aload_n 0, 1) := by decide +kernel
theorem dX4_tellPower_28 : decode cX4_tellPower 28 = .ok (.invokevirtual 33, 3) := by decide +kernel
theorem dX4_tellPower_31 : decode cX4_tellPower 31 = .ok (.iconst 1, 1) := by decide +kernel
theorem dX4_tellPower_32 : decode cX4_tellPower 32 = .ok (.ireturn, 1) := by decide +kernel
theorem dX4_tellCalendar_0 : decode cX4_tellCalendar 0 = .ok (.aload_n 0, 1) := by decide +kernel
theorem dX4_tellCalendar_1 : decode cX4_tellCalendar 1 = .ok (.invokevirtual 79, 3) := by decide +kernel
theorem dX4_tellCalendar_4 : decode cX4_tellCalendar 4 = .ok (.istore_n 1, 1) := by decide +kernel
theorem dX4_tellCalendar_5 : decode cX4_tellCalendar 5 = .ok (.iload_n 1, 1) := by decide +kernel
theorem dX4_tellCalendar_6 : decode cX4_tellCalendar 6 = .ok (.ifCond .lt 15, 3) := by decide +kernel
theorem dX4_tellCalendar_9 : decode cX4_tellCalendar 9 = .ok (.aload_n 0, 1) := by decide +kernel
theorem dX4_tellCalendar_10 : decode cX4_tellCalendar 10 = .ok (.getfield 18, 3) := by decide +kernel
theorem dX4_tellCalendar_13 : decode cX4_tellCalendar 13 = .ok (.getfield 83, 3) := by decide +kernel
theorem dX4_tellCalendar_16 : decode cX4_tellCalendar 16 = .ok (.bipush 6, 2) := by decide +kernel
theorem dX4_tellCalendar_18 : decode cX4_tellCalendar 18 = .ok (.if_icmp .lt 5, 3) := by decide +kernel
theorem dX4_tellCalendar_21 : decode cX4_tellCalendar 21 = .ok (.iconst 0, 1) := by decide +kernel
theorem dX4_tellCalendar_22 : decode cX4_tellCalendar 22 = .ok (.ireturn, 1) := by decide +kernel
theorem dX4_tellCalendar_23 : decode cX4_tellCalendar 23 = .ok (.aload_n 0, 1) := by decide +kernel
theorem dX4_tellCalendar_24 : decode cX4_tellCalendar 24 = .ok (.getfield 18, 3) := by decide +kernel
theorem dX4_tellCalendar_27 : decode cX4_tellCalendar 27 = .ok (.iload_n 1, 1) := by decide +kernel
theorem dX4_tellCalendar_28 : decode cX4_tellCalendar 28 = .ok (.invokevirtual 86, 3) := by decide +kernel
theorem dX4_tellCalendar_31 : decode cX4_tellCalendar 31 = .ok (.aload_n 0, 1) := by decide +kernel
theorem dX4_tellCalendar_32 : decode cX4_tellCalendar 32 = .ok (.invokevirtual 33, 3) := by decide +kernel
theorem dX4_tellCalendar_35 : decode cX4_tellCalendar 35 = .ok (.aload_n 0, 1) := by decide +kernel
theorem dX4_tellCalendar_36 : decode cX4_tellCalendar 36 = .ok (.ldc 90, 2) := by decide +kernel
theorem dX4_tellCalendar_38 : decode cX4_tellCalendar 38 = .ok (.iconst 1, 1) := by decide +kernel
theorem dX4_tellCalendar_39 : decode cX4_tellCalendar 39 = .ok (.invokevirtual 94, 3) := by decide +kernel
theorem dX4_tellCalendar_42 : decode cX4_tellCalendar 42 = .ok (.ifCond .eq 37, 3) := by decide +kernel
theorem dX4_tellCalendar_45 : decode cX4_tellCalendar 45 = .ok (.aload_n 0, 1) := by decide +kernel
theorem dX4_tellCalendar_46 : decode cX4_tellCalendar 46 = .ok (.ldc 98, 2) := by decide +kernel
theorem dX4_tellCalendar_48 : decode cX4_tellCalendar 48 = .ok (.iconst 2, 1) := by decide +kernel
theorem dX4_tellCalendar_49 : decode cX4_tellCalendar 49 = .ok (.invokevirtual 94, 3) := by decide +kernel
theorem dX4_tellCalendar_52 : decode cX4_tellCalendar 52 = .ok (.ifCond .eq 27, 3) := by decide +kernel
theorem dX4_tellCalendar_55 : decode cX4_tellCalendar 55 = .ok (.aload_n 0, 1) := by decide +kernel
theorem dX4_tellCalendar_56 : decode cX4_tellCalendar 56 = .ok (.ldc 99, 2) := by decide +kernel
theorem dX4_tellCalendar_58 : decode cX4_tellCalendar 58 = .ok (.iconst 3, 1) := by decide +kernel
theorem dX4_tellCalendar_59 : decode cX4_tellCalendar 59 = .ok (.invokevirtual 94, 3) := by decide +kernel
theorem dX4_tellCalendar_62 : decode cX4_tellCalendar 62 = .ok (.ifCond .eq 17, 3) := by decide +kernel
theorem dX4_tellCalendar_65 : decode cX4_tellCalendar 65 = .ok (.aload_n 0, 1) := by decide +kernel
theorem dX4_tellCalendar_66 : decode cX4_tellCalendar 66 = .ok (.ldc 101, 2) := by decide +kernel
theorem dX4_tellCalendar_68 : decode cX4_tellCalendar 68 = .ok (.iconst 4, 1) := by decide +kernel
theorem dX4_tellCalendar_69 : decode cX4_tellCalendar 69 = .ok (.invokevirtual 94, 3) := by decide +kernel
theorem dX4_tellCalendar_72 : decode cX4_tellCalendar 72 = .ok (.ifCond .eq 7, 3) := by decide +kernel
theorem dX4_tellCalendar_75 : decode cX4_tellCalendar 75 = .ok (.iconst 1, 1) := by decide +kernel
theorem dX4_tellCalendar_76 : decode cX4_tellCalendar 76 = .ok (.goto 4, 3) := by decide +kernel
theorem dX4_tellCalendar_79 : decode cX4_tellCalendar 79 = .ok (.iconst 0, 1) := by decide +kernel
theorem dX4_tellCalendar_80 : decode cX4_tellCalendar 80 = .ok (.ireturn, 1) := by decide +kernel
theorem dX4_tellField_0 : decode cX4_tellField 0 = .ok (.aload_n 0, 1) := by decide +kernel
theorem dX4_tellField_1 : decode cX4_tellField 1 = .ok (.getfield 18, 3) := by decide +kernel
theorem dX4_tellField_4 : decode cX4_tellField 4 = .ok (.aload_n 0, 1) := by decide +kernel
theorem dX4_tellField_5 : decode cX4_tellField 5 = .ok (.getfield 18, 3) := by decide +kernel
theorem dX4_tellField_8 : decode cX4_tellField 8 = .ok (.getfield 83, 3) := by decide +kernel
theorem dX4_tellField_11 : decode cX4_tellField 11 = .ok (.iconst 1, 1) := by decide +kernel
theorem dX4_tellField_12 : decode cX4_tellField 12 = .ok (.isub, 1) := by decide +kernel
theorem dX4_tellField_13 : decode cX4_tellField 13 = .ok (.invokevirtual 103, 3) := by decide +kernel
theorem dX4_tellField_16 : decode cX4_tellField 16 = .ok (.astore_n 3, 1) := by decide +kernel
theorem dX4_tellField_17 : decode cX4_tellField 17 = .ok (.aload_n 3, 1) := by decide +kernel
theorem dX4_tellField_18 : decode cX4_tellField 18 = .ok (.ifnull 11, 3) := by decide +kernel
theorem dX4_tellField_21 : decode cX4_tellField 21 = .ok (.aload_n 0, 1) := by decide +kernel
theorem dX4_tellField_22 : decode cX4_tellField 22 = .ok (.aload_n 1, 1) := by decide +kernel
theorem dX4_tellField_23 : decode cX4_tellField 23 = .ok (.invokevirtual 48, 3) := by decide +kernel
theorem dX4_tellField_26 : decode cX4_tellField 26 = .ok (.ifCond .ne 5, 3) := by decide +kernel
theorem dX4_tellField_29 : decode cX4_tellField 29 = .ok (.iconst 1, 1) := by decide +kernel
theorem dX4_tellField_30 : decode cX4_tellField 30 = .ok (.ireturn, 1) := by decide +kernel
theorem dX4_tellField_31 : decode cX4_tellField 31 = .ok (.aload_n 0, 1) := by decide +kernel
theorem dX4_tellField_32 : decode cX4_tellField 32 = .ok (.invokevirtual 33, 3) := by decide +kernel
theorem dX4_tellField_35 : decode cX4_tellField 35 = .ok (.aload_n 0, 1) := by decide +kernel
theorem dX4_tellField_36 : decode cX4_tellField 36 = .ok (.getfield 43, 3) := by decide +kernel
theorem dX4_tellField_39 : decode cX4_tellField 39 = .ok (.iconst 2, 1) := by decide +kernel
theorem dX4_tellField_40 : decode cX4_tellField 40 = .ok (.if_icmp .ne 14, 3) := by decide +kernel
theorem dX4_tellField_43 : decode cX4_tellField 43 = .ok (.iload_n 2, 1) := by decide +kernel
theorem dX4_tellField_44 : decode cX4_tellField 44 = .ok (.aload_n 0, 1) := by decide +kernel
theorem dX4_tellField_45 : decode cX4_tellField 45 = .ok (.getfield 72, 3) := by decide +kernel
theorem dX4_tellField_48 : decode cX4_tellField 48 = .ok (.invokestatic 107, 3) := by decide +kernel
theorem dX4_tellField_51 : decode cX4_tellField 51 = .ok (.ifCond .ne 5, 3) := by decide +kernel
theorem dX4_tellField_54 : decode cX4_tellField 54 = .ok (.iconst 0, 1) := by decide +kernel
theorem dX4_tellField_55 : decode cX4_tellField 55 = .ok (.ireturn, 1) := by decide +kernel
theorem dX4_tellField_56 : decode cX4_tellField 56 = .ok (.aload_n 3, 1) := by decide +kernel
theorem dX4_tellField_57 : decode cX4_tellField 57 = .ok (.iload_n 2, 1) := by decide +kernel
theorem dX4_tellField_58 : decode cX4_tellField 58 = .ok (.aload_n 0, 1) := by decide +kernel
theorem dX4_tellField_59 : decode cX4_tellField 59 = .ok (.getfield 72, 3) := by decide +kernel
theorem dX4_tellField_62 : decode cX4_tellField 62 = .ok (.invokevirtual 110, 3) := by decide +kernel
theorem dX4_tellField_65 : decode cX4_tellField 65 = .ok (.pop, 1) := by decide +kernel
theorem dX4_tellField_66 : decode cX4_tellField 66 = .ok (.aload_n 0, 1) := by decide +kernel
theorem dX4_tellField_67 : decode cX4_tellField 67 = .ok (.invokevirtual 33, 3) := by decide +kernel
theorem dX4_tellField_70 : decode cX4_tellField 70 = .ok (.iconst 1, 1) := by decide +kernel
theorem dX4_tellField_71 : decode cX4_tellField 71 = .ok (.ireturn, 1) := by decide +kernel
theorem dX4_tellPilgrim_0 : decode cX4_tellPilgrim 0 = .ok (.aload_n 0, 1) := by decide +kernel
theorem dX4_tellPilgrim_1 : decode cX4_tellPilgrim 1 = .ok (.getfield 18, 3) := by decide +kernel
theorem dX4_tellPilgrim_4 : decode cX4_tellPilgrim 4 = .ok (.getfield 114, 3) := by decide +kernel
theorem dX4_tellPilgrim_7 : decode cX4_tellPilgrim 7 = .ok (.bipush 8, 2) := by decide +kernel
theorem dX4_tellPilgrim_9 : decode cX4_tellPilgrim 9 = .ok (.if_icmp .lt 5, 3) := by decide +kernel
theorem dX4_tellPilgrim_12 : decode cX4_tellPilgrim 12 = .ok (.iconst 0, 1) := by decide +kernel
theorem dX4_tellPilgrim_13 : decode cX4_tellPilgrim 13 = .ok (.ireturn, 1) := by decide +kernel
theorem dX4_tellPilgrim_14 : decode cX4_tellPilgrim 14 = .ok (.aload_n 0, 1) := by decide +kernel
theorem dX4_tellPilgrim_15 : decode cX4_tellPilgrim 15 = .ok (.invokevirtual 33, 3) := by decide +kernel
theorem dX4_tellPilgrim_18 : decode cX4_tellPilgrim 18 = .ok (.aload_n 0, 1) := by decide +kernel
theorem dX4_tellPilgrim_19 : decode cX4_tellPilgrim 19 = .ok (.iconst 0, 1) := by decide +kernel
theorem dX4_tellPilgrim_20 : decode cX4_tellPilgrim 20 = .ok (.bipush 99, 2) := by decide +kernel
theorem dX4_tellPilgrim_22 : decode cX4_tellPilgrim 22 = .ok (.invokevirtual 68, 3) := by decide +kernel
theorem dX4_tellPilgrim_25 : decode cX4_tellPilgrim 25 = .ok (.ifCond .ne 5, 3) := by decide +kernel
theorem dX4_tellPilgrim_28 : decode cX4_tellPilgrim 28 = .ok (.iconst 0, 1) := by decide +kernel
theorem dX4_tellPilgrim_29 : decode cX4_tellPilgrim 29 = .ok (.ireturn, 1) := by decide +kernel
theorem dX4_tellPilgrim_30 : decode cX4_tellPilgrim 30 = .ok (.aload_n 0, 1) := by decide +kernel
theorem dX4_tellPilgrim_31 : decode cX4_tellPilgrim 31 = .ok (.getfield 72, 3) := by decide +kernel
theorem dX4_tellPilgrim_34 : decode cX4_tellPilgrim 34 = .ok (.istore_n 1, 1) := by decide +kernel
theorem dX4_tellPilgrim_35 : decode cX4_tellPilgrim 35 = .ok (.iconst (-1), 1) := by decide +kernel
theorem dX4_tellPilgrim_36 : decode cX4_tellPilgrim 36 = .ok (.istore_n 2, 1) := by decide +kernel
theorem dX4_tellPilgrim_37 : decode cX4_tellPilgrim 37 = .ok (.aload_n 0, 1) := by decide +kernel
theorem dX4_tellPilgrim_38 : decode cX4_tellPilgrim 38 = .ok (.invokevirtual 33, 3) := by decide +kernel
theorem dX4_tellPilgrim_41 : decode cX4_tellPilgrim 41 = .ok (.aload_n 0, 1) := by decide +kernel
theorem dX4_tellPilgrim_42 : decode cX4_tellPilgrim 42 = .ok (.ldc 117, 2) := by decide +kernel
theorem dX4_tellPilgrim_44 : decode cX4_tellPilgrim 44 = .ok (.invokevirtual 48, 3) := by decide +kernel
theorem dX4_tellPilgrim_47 : decode cX4_tellPilgrim 47 = .ok (.ifCond .eq 35, 3) := by decide +kernel
theorem dX4_tellPilgrim_50 : decode cX4_tellPilgrim 50 = .ok (.aload_n 0, 1) := by decide +kernel
theorem dX4_tellPilgrim_51 : decode cX4_tellPilgrim 51 = .ok (.invokevirtual 33, 3) := by decide +kernel
theorem dX4_tellPilgrim_54 : decode cX4_tellPilgrim 54 = .ok (.aload_n 0, 1) := by decide +kernel
theorem dX4_tellPilgrim_55 : decode cX4_tellPilgrim 55 = .ok (.iconst 0, 1) := by decide +kernel
theorem dX4_tellPilgrim_56 : decode cX4_tellPilgrim 56 = .ok (.aload_n 0, 1) := by decide +kernel
theorem dX4_tellPilgrim_57 : decode cX4_tellPilgrim 57 = .ok (.getfield 18, 3) := by decide +kernel
theorem dX4_tellPilgrim_60 : decode cX4_tellPilgrim 60 = .ok (.getfield 83, 3) := by decide +kernel
theorem dX4_tellPilgrim_63 : decode cX4_tellPilgrim 63 = .ok (.iconst 1, 1) := by decide +kernel
theorem dX4_tellPilgrim_64 : decode cX4_tellPilgrim 64 = .ok (.isub, 1) := by decide +kernel
theorem dX4_tellPilgrim_65 : decode cX4_tellPilgrim 65 = .ok (.invokevirtual 68, 3) := by decide +kernel
theorem dX4_tellPilgrim_68 : decode cX4_tellPilgrim 68 = .ok (.ifCond .ne 5, 3) := by decide +kernel
theorem dX4_tellPilgrim_71 : decode cX4_tellPilgrim 71 = .ok (.iconst 0, 1) := by decide +kernel
theorem dX4_tellPilgrim_72 : decode cX4_tellPilgrim 72 = .ok (.ireturn, 1) := by decide +kernel
theorem dX4_tellPilgrim_73 : decode cX4_tellPilgrim 73 = .ok (.aload_n 0, 1) := by decide +kernel
theorem dX4_tellPilgrim_74 : decode cX4_tellPilgrim 74 = .ok (.getfield 72, 3) := by decide +kernel
theorem dX4_tellPilgrim_77 : decode cX4_tellPilgrim 77 = .ok (.istore_n 2, 1) := by decide +kernel
theorem dX4_tellPilgrim_78 : decode cX4_tellPilgrim 78 = .ok (.aload_n 0, 1) := by decide +kernel
theorem dX4_tellPilgrim_79 : decode cX4_tellPilgrim 79 = .ok (.invokevirtual 33, 3) := by decide +kernel
theorem dX4_tellPilgrim_82 : decode cX4_tellPilgrim 82 = .ok (.aload_n 0, 1) := by decide +kernel
theorem dX4_tellPilgrim_83 : decode cX4_tellPilgrim 83 = .ok (.getfield 18, 3) := by decide +kernel
theorem dX4_tellPilgrim_86 : decode cX4_tellPilgrim 86 = .ok (.iload_n 1, 1) := by decide +kernel
theorem dX4_tellPilgrim_87 : decode cX4_tellPilgrim 87 = .ok (.iload_n 2, 1) := by decide +kernel
theorem dX4_tellPilgrim_88 : decode cX4_tellPilgrim 88 = .ok (.invokevirtual 119, 3) := by decide +kernel
theorem dX4_tellPilgrim_91 : decode cX4_tellPilgrim 91 = .ok (.iconst 1, 1) := by decide +kernel
theorem dX4_tellPilgrim_92 : decode cX4_tellPilgrim 92 = .ok (.ireturn, 1) := by decide +kernel
theorem dX4_isNumber_0 : decode cX4_isNumber 0 = .ok (.aload_n 0, 1) := by decide +kernel
theorem dX4_isNumber_1 : decode cX4_isNumber 1 = .ok (.getfield 43, 3) := by decide +kernel
theorem dX4_isNumber_4 : decode cX4_isNumber 4 = .ok (.iconst 2, 1) := by decide +kernel
theorem dX4_isNumber_5 : decode cX4_isNumber 5 = .ok (.if_icmp .ne 19, 3) := by decide +kernel
theorem dX4_isNumber_8 : decode cX4_isNumber 8 = .ok (.aload_n 0, 1) := by decide +kernel
theorem dX4_isNumber_9 : decode cX4_isNumber 9 = .ok (.getfield 72, 3) := by decide +kernel
theorem dX4_isNumber_12 : decode cX4_isNumber 12 = .ok (.iload_n 1, 1) := by decide +kernel
theorem dX4_isNumber_13 : decode cX4_isNumber 13 = .ok (.iload_n 2, 1) := by decide +kernel
theorem dX4_isNumber_14 : decode cX4_isNumber 14 = .ok (.invokestatic 123, 3) := by decide +kernel
theorem dX4_isNumber_17 : decode cX4_isNumber 17 = .ok (.ifCond .eq 7, 3) := by decide +kernel
theorem dX4_isNumber_20 : decode cX4_isNumber 20 = .ok (.iconst 1, 1) := by decide +kernel
theorem dX4_isNumber_21 : decode cX4_isNumber 21 = .ok (.goto 4, 3) := by decide +kernel
theorem dX4_isNumber_24 : decode cX4_isNumber 24 = .ok (.iconst 0, 1) := by decide +kernel
theorem dX4_isNumber_25 : decode cX4_isNumber 25 = .ok (.ireturn, 1) := by decide +kernel
theorem dX4_kindNamed_0 : decode cX4_kindNamed 0 = .ok (.iconst 0, 1) := by decide +kernel
theorem dX4_kindNamed_1 : decode cX4_kindNamed 1 = .ok (.istore_n 1, 1) := by decide +kernel
theorem dX4_kindNamed_2 : decode cX4_kindNamed 2 = .ok (.iload_n 1, 1) := by decide +kernel
theorem dX4_kindNamed_3 : decode cX4_kindNamed 3 = .ok (.iconst 5, 1) := by decide +kernel
theorem dX4_kindNamed_4 : decode cX4_kindNamed 4 = .ok (.if_icmp .gt 22, 3) := by decide +kernel
theorem dX4_kindNamed_7 : decode cX4_kindNamed 7 = .ok (.aload_n 0, 1) := by decide +kernel
theorem dX4_kindNamed_8 : decode cX4_kindNamed 8 = .ok (.iload_n 1, 1) := by decide +kernel
theorem dX4_kindNamed_9 : decode cX4_kindNamed 9 = .ok (.invokestatic 127, 3) := by decide +kernel
theorem dX4_kindNamed_12 : decode cX4_kindNamed 12 = .ok (.invokevirtual 48, 3) := by decide +kernel
theorem dX4_kindNamed_15 : decode cX4_kindNamed 15 = .ok (.ifCond .eq 5, 3) := by decide +kernel
theorem dX4_kindNamed_18 : decode cX4_kindNamed 18 = .ok (.iload_n 1, 1) := by decide +kernel
theorem dX4_kindNamed_19 : decode cX4_kindNamed 19 = .ok (.ireturn, 1) := by decide +kernel
theorem dX4_kindNamed_20 : decode cX4_kindNamed 20 = .ok (.iinc 1 1, 3) := by decide +kernel
theorem dX4_kindNamed_23 : decode cX4_kindNamed 23 = .ok (.goto (-21), 3) := by decide +kernel
theorem dX4_kindNamed_26 : decode cX4_kindNamed 26 = .ok (.iconst (-1), 1) := by decide +kernel
theorem dX4_kindNamed_27 : decode cX4_kindNamed 27 = .ok (.ireturn, 1) := by decide +kernel
theorem dX4_nameOf_0 : decode cX4_nameOf 0 = .ok (.iload_n 0, 1) := by decide +kernel
theorem dX4_nameOf_1 : decode cX4_nameOf 1 = .ok (.tableswitch 50 0 4 #[35, 38, 41, 44, 47], 35) := by decide +kernel
theorem dX4_nameOf_36 : decode cX4_nameOf 36 = .ok (.ldc 131, 2) := by decide +kernel
theorem dX4_nameOf_38 : decode cX4_nameOf 38 = .ok (.areturn, 1) := by decide +kernel
theorem dX4_nameOf_39 : decode cX4_nameOf 39 = .ok (.ldc 133, 2) := by decide +kernel
theorem dX4_nameOf_41 : decode cX4_nameOf 41 = .ok (.areturn, 1) := by decide +kernel
theorem dX4_nameOf_42 : decode cX4_nameOf 42 = .ok (.ldc 135, 2) := by decide +kernel
theorem dX4_nameOf_44 : decode cX4_nameOf 44 = .ok (.areturn, 1) := by decide +kernel
theorem dX4_nameOf_45 : decode cX4_nameOf 45 = .ok (.ldc 137, 2) := by decide +kernel
theorem dX4_nameOf_47 : decode cX4_nameOf 47 = .ok (.areturn, 1) := by decide +kernel
theorem dX4_nameOf_48 : decode cX4_nameOf 48 = .ok (.ldc 139, 2) := by decide +kernel
theorem dX4_nameOf_50 : decode cX4_nameOf 50 = .ok (.areturn, 1) := by decide +kernel
theorem dX4_nameOf_51 : decode cX4_nameOf 51 = .ok (.ldc 141, 2) := by decide +kernel
theorem dX4_nameOf_53 : decode cX4_nameOf 53 = .ok (.areturn, 1) := by decide +kernel
theorem dX4_isWord_0 : decode cX4_isWord 0 = .ok (.aload_n 0, 1) := by decide +kernel
theorem dX4_isWord_1 : decode cX4_isWord 1 = .ok (.getfield 43, 3) := by decide +kernel
theorem dX4_isWord_4 : decode cX4_isWord 4 = .ok (.iconst 1, 1) := by decide +kernel
theorem dX4_isWord_5 : decode cX4_isWord 5 = .ok (.if_icmp .ne 19, 3) := by decide +kernel
theorem dX4_isWord_8 : decode cX4_isWord 8 = .ok (.aload_n 0, 1) := by decide +kernel
theorem dX4_isWord_9 : decode cX4_isWord 9 = .ok (.getfield 30, 3) := by decide +kernel
theorem dX4_isWord_12 : decode cX4_isWord 12 = .ok (.aload_n 0, 1) := by decide +kernel
theorem dX4_isWord_13 : decode cX4_isWord 13 = .ok (.getfield 40, 3) := by decide +kernel
theorem dX4_isWord_16 : decode cX4_isWord 16 = .ok (.isub, 1) := by decide +kernel
theorem dX4_isWord_17 : decode cX4_isWord 17 = .ok (.aload_n 1, 1) := by decide +kernel
theorem dX4_isWord_18 : decode cX4_isWord 18 = .ok (.invokevirtual 143, 3) := by decide +kernel
theorem dX4_isWord_21 : decode cX4_isWord 21 = .ok (.if_icmp .eq 5, 3) := by decide +kernel
theorem dX4_isWord_24 : decode cX4_isWord 24 = .ok (.iconst 0, 1) := by decide +kernel
theorem dX4_isWord_25 : decode cX4_isWord 25 = .ok (.ireturn, 1) := by decide +kernel
theorem dX4_isWord_26 : decode cX4_isWord 26 = .ok (.iconst 0, 1) := by decide +kernel
theorem dX4_isWord_27 : decode cX4_isWord 27 = .ok (.istore_n 2, 1) := by decide +kernel
theorem dX4_isWord_28 : decode cX4_isWord 28 = .ok (.iload_n 2, 1) := by decide +kernel
theorem dX4_isWord_29 : decode cX4_isWord 29 = .ok (.aload_n 1, 1) := by decide +kernel
theorem dX4_isWord_30 : decode cX4_isWord 30 = .ok (.invokevirtual 143, 3) := by decide +kernel
theorem dX4_isWord_33 : decode cX4_isWord 33 = .ok (.if_icmp .ge 29, 3) := by decide +kernel
theorem dX4_isWord_36 : decode cX4_isWord 36 = .ok (.aload_n 0, 1) := by decide +kernel
theorem dX4_isWord_37 : decode cX4_isWord 37 = .ok (.aload_n 0, 1) := by decide +kernel
theorem dX4_isWord_38 : decode cX4_isWord 38 = .ok (.getfield 40, 3) := by decide +kernel
theorem dX4_isWord_41 : decode cX4_isWord 41 = .ok (.iload_n 2, 1) := by decide +kernel
theorem dX4_isWord_42 : decode cX4_isWord 42 = .ok (.iadd, 1) := by decide +kernel
theorem dX4_isWord_43 : decode cX4_isWord 43 = .ok (.invokevirtual 147, 3) := by decide +kernel
theorem dX4_isWord_46 : decode cX4_isWord 46 = .ok (.aload_n 1, 1) := by decide +kernel
theorem dX4_isWord_47 : decode cX4_isWord 47 = .ok (.iload_n 2, 1) := by decide +kernel
theorem dX4_isWord_48 : decode cX4_isWord 48 = .ok (.invokevirtual 151, 3) := by decide +kernel
theorem dX4_isWord_51 : decode cX4_isWord 51 = .ok (.if_icmp .eq 5, 3) := by decide +kernel
theorem dX4_isWord_54 : decode cX4_isWord 54 = .ok (.iconst 0, 1) := by decide +kernel
theorem dX4_isWord_55 : decode cX4_isWord 55 = .ok (.ireturn, 1) := by decide +kernel
theorem dX4_isWord_56 : decode cX4_isWord 56 = .ok (.iinc 2 1, 3) := by decide +kernel
theorem dX4_isWord_59 : decode cX4_isWord 59 = .ok (.goto (-31), 3) := by decide +kernel
theorem dX4_isWord_62 : decode cX4_isWord 62 = .ok (.iconst 1, 1) := by decide +kernel
theorem dX4_isWord_63 : decode cX4_isWord 63 = .ok (.ireturn, 1) := by decide +kernel
theorem dX4_readToken_0 : decode cX4_readToken 0 = .ok (.aload_n 0, 1) := by decide +kernel
theorem dX4_readToken_1 : decode cX4_readToken 1 = .ok (.aload_n 0, 1) := by decide +kernel
theorem dX4_readToken_2 : decode cX4_readToken 2 = .ok (.getfield 30, 3) := by decide +kernel
theorem dX4_readToken_5 : decode cX4_readToken 5 = .ok (.putfield 40, 3) := by decide +kernel
theorem dX4_readToken_8 : decode cX4_readToken 8 = .ok (.aload_n 0, 1) := by decide +kernel
theorem dX4_readToken_9 : decode cX4_readToken 9 = .ok (.getfield 40, 3) := by decide +kernel
theorem dX4_readToken_12 : decode cX4_readToken 12 = .ok (.aload_n 0, 1) := by decide +kernel
theorem dX4_readToken_13 : decode cX4_readToken 13 = .ok (.getfield 22, 3) := by decide +kernel
theorem dX4_readToken_16 : decode cX4_readToken 16 = .ok (.if_icmp .ge 29, 3) := by decide +kernel
theorem dX4_readToken_19 : decode cX4_readToken 19 = .ok (.aload_n 0, 1) := by decide +kernel
theorem dX4_readToken_20 : decode cX4_readToken 20 = .ok (.aload_n 0, 1) := by decide +kernel
theorem dX4_readToken_21 : decode cX4_readToken 21 = .ok (.getfield 40, 3) := by decide +kernel
theorem dX4_readToken_24 : decode cX4_readToken 24 = .ok (.invokevirtual 147, 3) := by decide +kernel
theorem dX4_readToken_27 : decode cX4_readToken 27 = .ok (.bipush 32, 2) := by decide +kernel
theorem dX4_readToken_29 : decode cX4_readToken 29 = .ok (.if_icmp .ne 16, 3) := by decide +kernel
theorem dX4_readToken_32 : decode cX4_readToken 32 = .ok (.aload_n 0, 1) := by decide +kernel
theorem dX4_readToken_33 : decode cX4_readToken 33 = .ok (.dup, 1) := by decide +kernel
theorem dX4_readToken_34 : decode cX4_readToken 34 = .ok (.getfield 40, 3) := by decide +kernel
theorem dX4_readToken_37 : decode cX4_readToken 37 = .ok (.iconst 1, 1) := by decide +kernel
theorem dX4_readToken_38 : decode cX4_readToken 38 = .ok (.iadd, 1) := by decide +kernel
theorem dX4_readToken_39 : decode cX4_readToken 39 = .ok (.putfield 40, 3) := by decide +kernel
theorem dX4_readToken_42 : decode cX4_readToken 42 = .ok (.goto (-34), 3) := by decide +kernel
theorem dX4_readToken_45 : decode cX4_readToken 45 = .ok (.aload_n 0, 1) := by decide +kernel
theorem dX4_readToken_46 : decode cX4_readToken 46 = .ok (.aload_n 0, 1) := by decide +kernel
theorem dX4_readToken_47 : decode cX4_readToken 47 = .ok (.getfield 40, 3) := by decide +kernel
theorem dX4_readToken_50 : decode cX4_readToken 50 = .ok (.putfield 30, 3) := by decide +kernel
theorem dX4_readToken_53 : decode cX4_readToken 53 = .ok (.aload_n 0, 1) := by decide +kernel
theorem dX4_readToken_54 : decode cX4_readToken 54 = .ok (.getfield 40, 3) := by decide +kernel
theorem dX4_readToken_57 : decode cX4_readToken 57 = .ok (.aload_n 0, 1) := by decide +kernel
theorem dX4_readToken_58 : decode cX4_readToken 58 = .ok (.getfield 22, 3) := by decide +kernel
theorem dX4_readToken_61 : decode cX4_readToken 61 = .ok (.if_icmp .lt 11, 3) := by decide +kernel
theorem dX4_readToken_64 : decode cX4_readToken 64 = .ok (.aload_n 0, 1) := by decide +kernel
theorem dX4_readToken_65 : decode cX4_readToken 65 = .ok (.iconst 0, 1) := by decide +kernel
theorem dX4_readToken_66 : decode cX4_readToken 66 = .ok (.putfield 43, 3) := by decide +kernel
theorem dX4_readToken_69 : decode cX4_readToken 69 = .ok (.goto 183, 3) := by decide +kernel
theorem dX4_readToken_72 : decode cX4_readToken 72 = .ok (.aload_n 0, 1) := by decide +kernel
theorem dX4_readToken_73 : decode cX4_readToken 73 = .ok (.aload_n 0, 1) := by decide +kernel
theorem dX4_readToken_74 : decode cX4_readToken 74 = .ok (.getfield 40, 3) := by decide +kernel
theorem dX4_readToken_77 : decode cX4_readToken 77 = .ok (.invokevirtual 147, 3) := by decide +kernel
theorem dX4_readToken_80 : decode cX4_readToken 80 = .ok (.invokestatic 155, 3) := by decide +kernel
theorem dX4_readToken_83 : decode cX4_readToken 83 = .ok (.ifCond .eq 46, 3) := by decide +kernel
theorem dX4_readToken_86 : decode cX4_readToken 86 = .ok (.aload_n 0, 1) := by decide +kernel
theorem dX4_readToken_87 : decode cX4_readToken 87 = .ok (.iconst 1, 1) := by decide +kernel
theorem dX4_readToken_88 : decode cX4_readToken 88 = .ok (.putfield 43, 3) := by decide +kernel
theorem dX4_readToken_91 : decode cX4_readToken 91 = .ok (.aload_n 0, 1) := by decide +kernel
theorem dX4_readToken_92 : decode cX4_readToken 92 = .ok (.getfield 30, 3) := by decide +kernel
theorem dX4_readToken_95 : decode cX4_readToken 95 = .ok (.aload_n 0, 1) := by decide +kernel
theorem dX4_readToken_96 : decode cX4_readToken 96 = .ok (.getfield 22, 3) := by decide +kernel
theorem dX4_readToken_99 : decode cX4_readToken 99 = .ok (.if_icmp .ge 153, 3) := by decide +kernel
theorem dX4_readToken_102 : decode cX4_readToken 102 = .ok (.aload_n 0, 1) := by decide +kernel
theorem dX4_readToken_103 : decode cX4_readToken 103 = .ok (.aload_n 0, 1) := by decide +kernel
theorem dX4_readToken_104 : decode cX4_readToken 104 = .ok (.getfield 30, 3) := by decide +kernel
theorem dX4_readToken_107 : decode cX4_readToken 107 = .ok (.invokevirtual 147, 3) := by decide +kernel
theorem dX4_readToken_110 : decode cX4_readToken 110 = .ok (.invokestatic 155, 3) := by decide +kernel
theorem dX4_readToken_113 : decode cX4_readToken 113 = .ok (.ifCond .eq 139, 3) := by decide +kernel
theorem dX4_readToken_116 : decode cX4_readToken 116 = .ok (.aload_n 0, 1) := by decide +kernel
theorem dX4_readToken_117 : decode cX4_readToken 117 = .ok (.dup, 1) := by decide +kernel
theorem dX4_readToken_118 : decode cX4_readToken 118 = .ok (.getfield 30, 3) := by decide +kernel
theorem dX4_readToken_121 : decode cX4_readToken 121 = .ok (.iconst 1, 1) := by decide +kernel
theorem dX4_readToken_122 : decode cX4_readToken 122 = .ok (.iadd, 1) := by decide +kernel
theorem dX4_readToken_123 : decode cX4_readToken 123 = .ok (.putfield 30, 3) := by decide +kernel
theorem dX4_readToken_126 : decode cX4_readToken 126 = .ok (.goto (-35), 3) := by decide +kernel
theorem dX4_readToken_129 : decode cX4_readToken 129 = .ok (.aload_n 0, 1) := by decide +kernel
theorem dX4_readToken_130 : decode cX4_readToken 130 = .ok (.aload_n 0, 1) := by decide +kernel
theorem dX4_readToken_131 : decode cX4_readToken 131 = .ok (.getfield 40, 3) := by decide +kernel
theorem dX4_readToken_134 : decode cX4_readToken 134 = .ok (.invokevirtual 147, 3) := by decide +kernel
theorem dX4_readToken_137 : decode cX4_readToken 137 = .ok (.invokestatic 159, 3) := by decide +kernel
theorem dX4_readToken_140 : decode cX4_readToken 140 = .ok (.ifCond .eq 80, 3) := by decide +kernel
theorem dX4_readToken_143 : decode cX4_readToken 143 = .ok (.aload_n 0, 1) := by decide +kernel
theorem dX4_readToken_144 : decode cX4_readToken 144 = .ok (.iconst 2, 1) := by decide +kernel
theorem dX4_readToken_145 : decode cX4_readToken 145 = .ok (.putfield 43, 3) := by decide +kernel
theorem dX4_readToken_148 : decode cX4_readToken 148 = .ok (.aload_n 0, 1) := by decide +kernel
theorem dX4_readToken_149 : decode cX4_readToken 149 = .ok (.iconst 0, 1) := by decide +kernel
theorem dX4_readToken_150 : decode cX4_readToken 150 = .ok (.putfield 72, 3) := by decide +kernel
theorem dX4_readToken_153 : decode cX4_readToken 153 = .ok (.aload_n 0, 1) := by decide +kernel
theorem dX4_readToken_154 : decode cX4_readToken 154 = .ok (.getfield 30, 3) := by decide +kernel
theorem dX4_readToken_157 : decode cX4_readToken 157 = .ok (.aload_n 0, 1) := by decide +kernel
theorem dX4_readToken_158 : decode cX4_readToken 158 = .ok (.getfield 22, 3) := by decide +kernel
theorem dX4_readToken_161 : decode cX4_readToken 161 = .ok (.if_icmp .ge 91, 3) := by decide +kernel
theorem dX4_readToken_164 : decode cX4_readToken 164 = .ok (.aload_n 0, 1) := by decide +kernel
theorem dX4_readToken_165 : decode cX4_readToken 165 = .ok (.aload_n 0, 1) := by decide +kernel
theorem dX4_readToken_166 : decode cX4_readToken 166 = .ok (.getfield 30, 3) := by decide +kernel
theorem dX4_readToken_169 : decode cX4_readToken 169 = .ok (.invokevirtual 147, 3) := by decide +kernel
theorem dX4_readToken_172 : decode cX4_readToken 172 = .ok (.invokestatic 159, 3) := by decide +kernel
theorem dX4_readToken_175 : decode cX4_readToken 175 = .ok (.ifCond .eq 77, 3) := by decide +kernel
theorem dX4_readToken_178 : decode cX4_readToken 178 = .ok (.aload_n 0, 1) := by decide +kernel
theorem dX4_readToken_179 : decode cX4_readToken 179 = .ok (.sipush 10000, 3) := by decide +kernel
theorem dX4_readToken_182 : decode cX4_readToken 182 = .ok (.aload_n 0, 1) := by decide +kernel
theorem dX4_readToken_183 : decode cX4_readToken 183 = .ok (.getfield 72, 3) := by decide +kernel
theorem dX4_readToken_186 : decode cX4_readToken 186 = .ok (.bipush 10, 2) := by decide +kernel
theorem dX4_readToken_188 : decode cX4_readToken 188 = .ok (.imul, 1) := by decide +kernel
theorem dX4_readToken_189 : decode cX4_readToken 189 = .ok (.aload_n 0, 1) := by decide +kernel
theorem dX4_readToken_190 : decode cX4_readToken 190 = .ok (.aload_n 0, 1) := by decide +kernel
theorem dX4_readToken_191 : decode cX4_readToken 191 = .ok (.getfield 30, 3) := by decide +kernel
theorem dX4_readToken_194 : decode cX4_readToken 194 = .ok (.invokevirtual 147, 3) := by decide +kernel
theorem dX4_readToken_197 : decode cX4_readToken 197 = .ok (.iadd, 1) := by decide +kernel
theorem dX4_readToken_198 : decode cX4_readToken 198 = .ok (.bipush 48, 2) := by decide +kernel
theorem dX4_readToken_200 : decode cX4_readToken 200 = .ok (.isub, 1) := by decide +kernel
theorem dX4_readToken_201 : decode cX4_readToken 201 = .ok (.invokestatic 162, 3) := by decide +kernel
theorem dX4_readToken_204 : decode cX4_readToken 204 = .ok (.putfield 72, 3) := by decide +kernel
theorem dX4_readToken_207 : decode cX4_readToken 207 = .ok (.aload_n 0, 1) := by decide +kernel
theorem dX4_readToken_208 : decode cX4_readToken 208 = .ok (.dup, 1) := by decide +kernel
theorem dX4_readToken_209 : decode cX4_readToken 209 = .ok (.getfield 30, 3) := by decide +kernel
theorem dX4_readToken_212 : decode cX4_readToken 212 = .ok (.iconst 1, 1) := by decide +kernel
theorem dX4_readToken_213 : decode cX4_readToken 213 = .ok (.iadd, 1) := by decide +kernel
theorem dX4_readToken_214 : decode cX4_readToken 214 = .ok (.putfield 30, 3) := by decide +kernel
theorem dX4_readToken_217 : decode cX4_readToken 217 = .ok (.goto (-64), 3) := by decide +kernel
theorem dX4_readToken_220 : decode cX4_readToken 220 = .ok (.aload_n 0, 1) := by decide +kernel
theorem dX4_readToken_221 : decode cX4_readToken 221 = .ok (.aload_n 0, 1) := by decide +kernel
theorem dX4_readToken_222 : decode cX4_readToken 222 = .ok (.aload_n 0, 1) := by decide +kernel
theorem dX4_readToken_223 : decode cX4_readToken 223 = .ok (.getfield 40, 3) := by decide +kernel
theorem dX4_readToken_226 : decode cX4_readToken 226 = .ok (.invokevirtual 147, 3) := by decide +kernel
theorem dX4_readToken_229 : decode cX4_readToken 229 = .ok (.bipush 59, 2) := by decide +kernel
theorem dX4_readToken_231 : decode cX4_readToken 231 = .ok (.if_icmp .ne 7, 3) := by decide +kernel
theorem dX4_readToken_234 : decode cX4_readToken 234 = .ok (.iconst 3, 1) := by decide +kernel
theorem dX4_readToken_235 : decode cX4_readToken 235 = .ok (.goto 4, 3) := by decide +kernel
theorem dX4_readToken_238 : decode cX4_readToken 238 = .ok (.iconst 4, 1) := by decide +kernel
theorem dX4_readToken_239 : decode cX4_readToken 239 = .ok (.putfield 43, 3) := by decide +kernel
theorem dX4_readToken_242 : decode cX4_readToken 242 = .ok (.aload_n 0, 1) := by decide +kernel
theorem dX4_readToken_243 : decode cX4_readToken 243 = .ok (.aload_n 0, 1) := by decide +kernel
theorem dX4_readToken_244 : decode cX4_readToken 244 = .ok (.getfield 40, 3) := by decide +kernel
theorem dX4_readToken_247 : decode cX4_readToken 247 = .ok (.iconst 1, 1) := by decide +kernel
theorem dX4_readToken_248 : decode cX4_readToken 248 = .ok (.iadd, 1) := by decide +kernel
theorem dX4_readToken_249 : decode cX4_readToken 249 = .ok (.putfield 30, 3) := by decide +kernel
theorem dX4_readToken_252 : decode cX4_readToken 252 = .ok (.return_, 1) := by decide +kernel
theorem dX4_isLetter_0 : decode cX4_isLetter 0 = .ok (.iload_n 0, 1) := by decide +kernel
theorem dX4_isLetter_1 : decode cX4_isLetter 1 = .ok (.bipush 97, 2) := by decide +kernel
theorem dX4_isLetter_3 : decode cX4_isLetter 3 = .ok (.if_icmp .lt 13, 3) := by decide +kernel
theorem dX4_isLetter_6 : decode cX4_isLetter 6 = .ok (.iload_n 0, 1) := by decide +kernel
theorem dX4_isLetter_7 : decode cX4_isLetter 7 = .ok (.bipush 122, 2) := by decide +kernel
theorem dX4_isLetter_9 : decode cX4_isLetter 9 = .ok (.if_icmp .gt 7, 3) := by decide +kernel
theorem dX4_isLetter_12 : decode cX4_isLetter 12 = .ok (.iconst 1, 1) := by decide +kernel
theorem dX4_isLetter_13 : decode cX4_isLetter 13 = .ok (.goto 4, 3) := by decide +kernel
theorem dX4_isLetter_16 : decode cX4_isLetter 16 = .ok (.iconst 0, 1) := by decide +kernel
theorem dX4_isLetter_17 : decode cX4_isLetter 17 = .ok (.ireturn, 1) := by decide +kernel
theorem dX4_isDigit_0 : decode cX4_isDigit 0 = .ok (.iload_n 0, 1) := by decide +kernel
theorem dX4_isDigit_1 : decode cX4_isDigit 1 = .ok (.bipush 48, 2) := by decide +kernel
theorem dX4_isDigit_3 : decode cX4_isDigit 3 = .ok (.if_icmp .lt 13, 3) := by decide +kernel
theorem dX4_isDigit_6 : decode cX4_isDigit 6 = .ok (.iload_n 0, 1) := by decide +kernel
theorem dX4_isDigit_7 : decode cX4_isDigit 7 = .ok (.bipush 57, 2) := by decide +kernel
theorem dX4_isDigit_9 : decode cX4_isDigit 9 = .ok (.if_icmp .gt 7, 3) := by decide +kernel
theorem dX4_isDigit_12 : decode cX4_isDigit 12 = .ok (.iconst 1, 1) := by decide +kernel
theorem dX4_isDigit_13 : decode cX4_isDigit 13 = .ok (.goto 4, 3) := by decide +kernel
theorem dX4_isDigit_16 : decode cX4_isDigit 16 = .ok (.iconst 0, 1) := by decide +kernel
theorem dX4_isDigit_17 : decode cX4_isDigit 17 = .ok (.ireturn, 1) := by decide +kernel
theorem dX4_byteAt_0 : decode cX4_byteAt 0 = .ok (.iload_n 1, 1) := by decide +kernel
theorem dX4_byteAt_1 : decode cX4_byteAt 1 = .ok (.ifCond .lt 29, 3) := by decide +kernel
theorem dX4_byteAt_4 : decode cX4_byteAt 4 = .ok (.iload_n 1, 1) := by decide +kernel
theorem dX4_byteAt_5 : decode cX4_byteAt 5 = .ok (.aload_n 0, 1) := by decide +kernel
theorem dX4_byteAt_6 : decode cX4_byteAt 6 = .ok (.getfield 22, 3) := by decide +kernel
theorem dX4_byteAt_9 : decode cX4_byteAt 9 = .ok (.if_icmp .ge 21, 3) := by decide +kernel
theorem dX4_byteAt_12 : decode cX4_byteAt 12 = .ok (.iload_n 1, 1) := by decide +kernel
theorem dX4_byteAt_13 : decode cX4_byteAt 13 = .ok (.aload_n 0, 1) := by decide +kernel
theorem dX4_byteAt_14 : decode cX4_byteAt 14 = .ok (.getfield 9, 3) := by decide +kernel
theorem dX4_byteAt_17 : decode cX4_byteAt 17 = .ok (.arraylength, 1) := by decide +kernel
theorem dX4_byteAt_18 : decode cX4_byteAt 18 = .ok (.if_icmp .ge 12, 3) := by decide +kernel
theorem dX4_byteAt_21 : decode cX4_byteAt 21 = .ok (.aload_n 0, 1) := by decide +kernel
theorem dX4_byteAt_22 : decode cX4_byteAt 22 = .ok (.getfield 9, 3) := by decide +kernel
theorem dX4_byteAt_25 : decode cX4_byteAt 25 = .ok (.iload_n 1, 1) := by decide +kernel
theorem dX4_byteAt_26 : decode cX4_byteAt 26 = .ok (.baload, 1) := by decide +kernel
theorem dX4_byteAt_27 : decode cX4_byteAt 27 = .ok (.goto 4, 3) := by decide +kernel
theorem dX4_byteAt_30 : decode cX4_byteAt 30 = .ok (.iconst 0, 1) := by decide +kernel
theorem dX4_byteAt_31 : decode cX4_byteAt 31 = .ok (.ireturn, 1) := by decide +kernel
theorem dX5_init_0 : decode cX5_init 0 = .ok (.aload_n 0, 1) := by decide +kernel
theorem dX5_init_1 : decode cX5_init 1 = .ok (.invokespecial 3, 3) := by decide +kernel
theorem dX5_init_4 : decode cX5_init 4 = .ok (.aload_n 0, 1) := by decide +kernel
theorem dX5_init_5 : decode cX5_init 5 = .ok (.new 9, 3) := by decide +kernel
theorem dX5_init_8 : decode cX5_init 8 = .ok (.dup, 1) := by decide +kernel
theorem dX5_init_9 : decode cX5_init 9 = .ok (.invokespecial 11, 3) := by decide +kernel
theorem dX5_init_12 : decode cX5_init 12 = .ok (.putfield 12, 3) := by decide +kernel
theorem dX5_init_15 : decode cX5_init 15 = .ok (.aload_n 0, 1) := by decide +kernel
theorem dX5_init_16 : decode cX5_init 16 = .ok (.new 9, 3) := by decide +kernel
theorem dX5_init_19 : decode cX5_init 19 = .ok (.dup, 1) := by decide +kernel
theorem dX5_init_20 : decode cX5_init 20 = .ok (.invokespecial 11, 3) := by decide +kernel
theorem dX5_init_23 : decode cX5_init 23 = .ok (.putfield 16, 3) := by decide +kernel
theorem dX5_init_26 : decode cX5_init 26 = .ok (.aload_n 0, 1) := by decide +kernel
theorem dX5_init_27 : decode cX5_init 27 = .ok (.new 19, 3) := by decide +kernel
theorem dX5_init_30 : decode cX5_init 30 = .ok (.dup, 1) := by decide +kernel
theorem dX5_init_31 : decode cX5_init 31 = .ok (.invokespecial 21, 3) := by decide +kernel
theorem dX5_init_34 : decode cX5_init 34 = .ok (.putfield 22, 3) := by decide +kernel
theorem dX5_init_37 : decode cX5_init 37 = .ok (.aload_n 0, 1) := by decide +kernel
theorem dX5_init_38 : decode cX5_init 38 = .ok (.iconst 4, 1) := by decide +kernel
theorem dX5_init_39 : decode cX5_init 39 = .ok (.anewarray 26, 3) := by decide +kernel
theorem dX5_init_42 : decode cX5_init 42 = .ok (.putfield 28, 3) := by decide +kernel
theorem dX5_init_45 : decode cX5_init 45 = .ok (.aload_n 0, 1) := by decide +kernel
theorem dX5_init_46 : decode cX5_init 46 = .ok (.bipush 7, 2) := by decide +kernel
theorem dX5_init_48 : decode cX5_init 48 = .ok (.newarray .int, 2) := by decide +kernel
theorem dX5_init_50 : decode cX5_init 50 = .ok (.putfield 32, 3) := by decide +kernel
theorem dX5_init_53 : decode cX5_init 53 = .ok (.aload_n 0, 1) := by decide +kernel
theorem dX5_init_54 : decode cX5_init 54 = .ok (.sipush 400, 3) := by decide +kernel
theorem dX5_init_57 : decode cX5_init 57 = .ok (.newarray .int, 2) := by decide +kernel
theorem dX5_init_59 : decode cX5_init 59 = .ok (.putfield 36, 3) := by decide +kernel
theorem dX5_init_62 : decode cX5_init 62 = .ok (.aload_n 0, 1) := by decide +kernel
theorem dX5_init_63 : decode cX5_init 63 = .ok (.new 39, 3) := by decide +kernel
theorem dX5_init_66 : decode cX5_init 66 = .ok (.dup, 1) := by decide +kernel
theorem dX5_init_67 : decode cX5_init 67 = .ok (.invokespecial 41, 3) := by decide +kernel
theorem dX5_init_70 : decode cX5_init 70 = .ok (.putfield 42, 3) := by decide +kernel
theorem dX5_init_73 : decode cX5_init 73 = .ok (.aload_n 0, 1) := by decide +kernel
theorem dX5_init_74 : decode cX5_init 74 = .ok (.new 46, 3) := by decide +kernel
theorem dX5_init_77 : decode cX5_init 77 = .ok (.dup, 1) := by decide +kernel
theorem dX5_init_78 : decode cX5_init 78 = .ok (.invokespecial 48, 3) := by decide +kernel
theorem dX5_init_81 : decode cX5_init 81 = .ok (.putfield 49, 3) := by decide +kernel
theorem dX5_init_84 : decode cX5_init 84 = .ok (.iconst 0, 1) := by decide +kernel
theorem dX5_init_85 : decode cX5_init 85 = .ok (.istore_n 1, 1) := by decide +kernel
theorem dX5_init_86 : decode cX5_init 86 = .ok (.iload_n 1, 1) := by decide +kernel
theorem dX5_init_87 : decode cX5_init 87 = .ok (.aload_n 0, 1) := by decide +kernel
theorem dX5_init_88 : decode cX5_init 88 = .ok (.getfield 28, 3) := by decide +kernel
theorem dX5_init_91 : decode cX5_init 91 = .ok (.arraylength, 1) := by decide +kernel
theorem dX5_init_92 : decode cX5_init 92 = .ok (.if_icmp .ge 22, 3) := by decide +kernel
theorem dX5_init_95 : decode cX5_init 95 = .ok (.aload_n 0, 1) := by decide +kernel
theorem dX5_init_96 : decode cX5_init 96 = .ok (.getfield 28, 3) := by decide +kernel
theorem dX5_init_99 : decode cX5_init 99 = .ok (.iload_n 1, 1) := by decide +kernel
theorem dX5_init_100 : decode cX5_init 100 = .ok (.new 26, 3) := by decide +kernel
theorem dX5_init_103 : decode cX5_init 103 = .ok (.dup, 1) := by decide +kernel
theorem dX5_init_104 : decode cX5_init 104 = .ok (.invokespecial 53, 3) := by decide +kernel
theorem dX5_init_107 : decode cX5_init 107 = .ok (.aastore, 1) := by decide +kernel
theorem dX5_init_108 : decode cX5_init 108 = .ok (.iinc 1 1, 3) := by decide +kernel
theorem dX5_init_111 : decode cX5_init 111 = .ok (.goto (-25), 3) := by decide +kernel
theorem dX5_init_114 : decode cX5_init 114 = .ok (.return_, 1) := by decide +kernel
theorem dX5_calendar_0 : decode cX5_calendar 0 = .ok (.iconst 0, 1) := by decide +kernel
theorem dX5_calendar_1 : decode cX5_calendar 1 = .ok (.iload_n 1, 1) := by decide +kernel
theorem dX5_calendar_2 : decode cX5_calendar 2 = .ok (.invokestatic 54, 3) := by decide +kernel
theorem dX5_calendar_5 : decode cX5_calendar 5 = .ok (.ifCond .ne 10, 3) := by decide +kernel
theorem dX5_calendar_8 : decode cX5_calendar 8 = .ok (.aload_n 0, 1) := by decide +kernel
theorem dX5_calendar_9 : decode cX5_calendar 9 = .ok (.ldc 58, 2) := by decide +kernel
theorem dX5_calendar_11 : decode cX5_calendar 11 = .ok (.invokevirtual 59, 3) := by decide +kernel
theorem dX5_calendar_14 : decode cX5_calendar 14 = .ok (.ireturn, 1) := by decide +kernel
theorem dX5_calendar_15 : decode cX5_calendar 15 = .ok (.aload_n 0, 1) := by decide +kernel
theorem dX5_calendar_16 : decode cX5_calendar 16 = .ok (.getfield 12, 3) := by decide +kernel
theorem dX5_calendar_19 : decode cX5_calendar 19 = .ok (.getfield 63, 3) := by decide +kernel
theorem dX5_calendar_22 : decode cX5_calendar 22 = .ok (.bipush 6, 2) := by decide +kernel
theorem dX5_calendar_24 : decode cX5_calendar 24 = .ok (.if_icmp .lt 10, 3) := by decide +kernel
theorem dX5_calendar_27 : decode cX5_calendar 27 = .ok (.aload_n 0, 1) := by decide +kernel
theorem dX5_calendar_28 : decode cX5_calendar 28 = .ok (.ldc 67, 2) := by decide +kernel
theorem dX5_calendar_30 : decode cX5_calendar 30 = .ok (.invokevirtual 59, 3) := by decide +kernel
theorem dX5_calendar_33 : decode cX5_calendar 33 = .ok (.ireturn, 1) := by decide +kernel
theorem dX5_calendar_34 : decode cX5_calendar 34 = .ok (.aload_n 0, 1) := by decide +kernel
theorem dX5_calendar_35 : decode cX5_calendar 35 = .ok (.getfield 12, 3) := by decide +kernel
theorem dX5_calendar_38 : decode cX5_calendar 38 = .ok (.iload_n 1, 1) := by decide +kernel
theorem dX5_calendar_39 : decode cX5_calendar 39 = .ok (.invokevirtual 68, 3) := by decide +kernel
theorem dX5_calendar_42 : decode cX5_calendar 42 = .ok (.aload_n 0, 1) := by decide +kernel
theorem dX5_calendar_43 : decode cX5_calendar 43 = .ok (.getfield 12, 3) := by decide +kernel
theorem dX5_calendar_46 : decode cX5_calendar 46 = .ok (.getfield 63, 3) := by decide +kernel
theorem dX5_calendar_49 : decode cX5_calendar 49 = .ok (.iconst 1, 1) := by decide +kernel
theorem dX5_calendar_50 : decode cX5_calendar 50 = .ok (.isub, 1) := by decide +kernel
theorem dX5_calendar_51 : decode cX5_calendar 51 = .ok (.ireturn, 1) := by decide +kernel
theorem dX5_of_0 : decode cX5_of 0 = .ok (.aload_n 0, 1) := by decide +kernel
theorem dX5_of_1 : decode cX5_of 1 = .ok (.getfield 12, 3) := by decide +kernel
theorem dX5_of_4 : decode cX5_of 4 = .ok (.iload_n 1, 1) := by decide +kernel
theorem dX5_of_5 : decode cX5_of 5 = .ok (.invokevirtual 72, 3) := by decide +kernel
theorem dX5_of_8 : decode cX5_of 8 = .ok (.astore_n 3, 1) := by decide +kernel
theorem dX5_of_9 : decode cX5_of 9 = .ok (.aload_n 3, 1) := by decide +kernel
theorem dX5_of_10 : decode cX5_of 10 = .ok (.ifnull 10, 3) := by decide +kernel
theorem dX5_of_13 : decode cX5_of 13 = .ok (.iload_n 2, 1) := by decide +kernel
theorem dX5_of_14 : decode cX5_of 14 = .ok (.invokestatic 76, 3) := by decide +kernel
theorem dX5_of_17 : decode cX5_of 17 = .ok (.ifCond .ne 10, 3) := by decide +kernel
theorem dX5_of_20 : decode cX5_of 20 = .ok (.aload_n 0, 1) := by decide +kernel
theorem dX5_of_21 : decode cX5_of 21 = .ok (.ldc 58, 2) := by decide +kernel
theorem dX5_of_23 : decode cX5_of 23 = .ok (.invokevirtual 59, 3) := by decide +kernel
theorem dX5_of_26 : decode cX5_of 26 = .ok (.ireturn, 1) := by decide +kernel
theorem dX5_of_27 : decode cX5_of 27 = .ok (.aload_n 3, 1) := by decide +kernel
theorem dX5_of_28 : decode cX5_of 28 = .ok (.iload_n 2, 1) := by decide +kernel
theorem dX5_of_29 : decode cX5_of 29 = .ok (.invokevirtual 80, 3) := by decide +kernel
theorem dX5_of_32 : decode cX5_of 32 = .ok (.ireturn, 1) := by decide +kernel
theorem dX5_set_0 : decode cX5_set 0 = .ok (.aload_n 0, 1) := by decide +kernel
theorem dX5_set_1 : decode cX5_set 1 = .ok (.getfield 12, 3) := by decide +kernel
theorem dX5_set_4 : decode cX5_set 4 = .ok (.iload_n 1, 1) := by decide +kernel
theorem dX5_set_5 : decode cX5_set 5 = .ok (.invokevirtual 72, 3) := by decide +kernel
theorem dX5_set_8 : decode cX5_set 8 = .ok (.astore 4, 2) := by decide +kernel
theorem dX5_set_10 : decode cX5_set 10 = .ok (.aload 4, 2) := by decide +kernel
theorem dX5_set_12 : decode cX5_set 12 = .ok (.ifnull 15, 3) := by decide +kernel
theorem dX5_set_15 : decode cX5_set 15 = .ok (.iload_n 2, 1) := by decide +kernel
theorem dX5_set_16 : decode cX5_set 16 = .ok (.ifCond .eq 11, 3) := by decide +kernel
theorem dX5_set_19 : decode cX5_set 19 = .ok (.iload_n 2, 1) := by decide +kernel
theorem dX5_set_20 : decode cX5_set 20 = .ok (.iload_n 3, 1) := by decide +kernel
theorem dX5_set_21 : decode cX5_set 21 = .ok (.invokestatic 54, 3) := by decide +kernel
theorem dX5_set_24 : decode cX5_set 24 = .ok (.ifCond .ne 10, 3) := by decide +kernel
theorem dX5_set_27 : decode cX5_set 27 = .ok (.aload_n 0, 1) := by decide +kernel
theorem dX5_set_28 : decode cX5_set 28 = .ok (.ldc 58, 2) := by decide +kernel
theorem dX5_set_30 : decode cX5_set 30 = .ok (.invokevirtual 59, 3) := by decide +kernel
theorem dX5_set_33 : decode cX5_set 33 = .ok (.ireturn, 1) := by decide +kernel
theorem dX5_set_34 : decode cX5_set 34 = .ok (.aload 4, 2) := by decide +kernel
theorem dX5_set_36 : decode cX5_set 36 = .ok (.iload_n 2, 1) := by decide +kernel
theorem dX5_set_37 : decode cX5_set 37 = .ok (.iload_n 3, 1) := by decide +kernel
theorem dX5_set_38 : decode cX5_set 38 = .ok (.invokevirtual 83, 3) := by decide +kernel
theorem dX5_set_41 : decode cX5_set 41 = .ok (.ireturn, 1) := by decide +kernel
theorem dX5_turn_0 : decode cX5_turn 0 = .ok (.aload_n 0, 1) := by decide +kernel
theorem dX5_turn_1 : decode cX5_turn 1 = .ok (.getfield 12, 3) := by decide +kernel
theorem dX5_turn_4 : decode cX5_turn 4 = .ok (.iload_n 1, 1) := by decide +kernel
theorem dX5_turn_5 : decode cX5_turn 5 = .ok (.invokevirtual 72, 3) := by decide +kernel
theorem dX5_turn_8 : decode cX5_turn 8 = .ok (.astore_n 3, 1) := by decide +kernel
theorem dX5_turn_9 : decode cX5_turn 9 = .ok (.aload_n 3, 1) := by decide +kernel
theorem dX5_turn_10 : decode cX5_turn 10 = .ok (.ifnull 11, 3) := by decide +kernel
theorem dX5_turn_13 : decode cX5_turn 13 = .ok (.iconst 0, 1) := by decide +kernel
theorem dX5_turn_14 : decode cX5_turn 14 = .ok (.iload_n 2, 1) := by decide +kernel
theorem dX5_turn_15 : decode cX5_turn 15 = .ok (.invokestatic 54, 3) := by decide +kernel
theorem dX5_turn_18 : decode cX5_turn 18 = .ok (.ifCond .ne 10, 3) := by decide +kernel
theorem dX5_turn_21 : decode cX5_turn 21 = .ok (.aload_n 0, 1) := by decide +kernel
theorem dX5_turn_22 : decode cX5_turn 22 = .ok (.ldc 58, 2) := by decide +kernel
theorem dX5_turn_24 : decode cX5_turn 24 = .ok (.invokevirtual 59, 3) := by decide +kernel
theorem dX5_turn_27 : decode cX5_turn 27 = .ok (.ireturn, 1) := by decide +kernel
theorem dX5_turn_28 : decode cX5_turn 28 = .ok (.aload_n 3, 1) := by decide +kernel
theorem dX5_turn_29 : decode cX5_turn 29 = .ok (.iconst 0, 1) := by decide +kernel
theorem dX5_turn_30 : decode cX5_turn 30 = .ok (.iload_n 2, 1) := by decide +kernel
theorem dX5_turn_31 : decode cX5_turn 31 = .ok (.invokevirtual 83, 3) := by decide +kernel
theorem dX5_turn_34 : decode cX5_turn 34 = .ok (.ireturn, 1) := by decide +kernel
theorem dX5_as_0 : decode cX5_as 0 = .ok (.aload_n 0, 1) := by decide +kernel
theorem dX5_as_1 : decode cX5_as 1 = .ok (.getfield 12, 3) := by decide +kernel
theorem dX5_as_4 : decode cX5_as 4 = .ok (.iload_n 1, 1) := by decide +kernel
theorem dX5_as_5 : decode cX5_as 5 = .ok (.invokevirtual 72, 3) := by decide +kernel
theorem dX5_as_8 : decode cX5_as 8 = .ok (.astore_n 3, 1) := by decide +kernel
theorem dX5_as_9 : decode cX5_as 9 = .ok (.aload_n 3, 1) := by decide +kernel
theorem dX5_as_10 : decode cX5_as 10 = .ok (.ifnull 11, 3) := by decide +kernel
theorem dX5_as_13 : decode cX5_as 13 = .ok (.iconst 0, 1) := by decide +kernel
theorem dX5_as_14 : decode cX5_as 14 = .ok (.iload_n 2, 1) := by decide +kernel
theorem dX5_as_15 : decode cX5_as 15 = .ok (.invokestatic 54, 3) := by decide +kernel
theorem dX5_as_18 : decode cX5_as 18 = .ok (.ifCond .ne 10, 3) := by decide +kernel
theorem dX5_as_21 : decode cX5_as 21 = .ok (.aload_n 0, 1) := by decide +kernel
theorem dX5_as_22 : decode cX5_as 22 = .ok (.ldc 58, 2) := by decide +kernel
theorem dX5_as_24 : decode cX5_as 24 = .ok (.invokevirtual 59, 3) := by decide +kernel
theorem dX5_as_27 : decode cX5_as 27 = .ok (.ireturn, 1) := by decide +kernel
theorem dX5_as_28 : decode cX5_as 28 = .ok (.aload_n 3, 1) := by decide +kernel
theorem dX5_as_29 : decode cX5_as 29 = .ok (.iload_n 2, 1) := by decide +kernel
theorem dX5_as_30 : decode cX5_as 30 = .ok (.invokevirtual 87, 3) := by decide +kernel
theorem dX5_as_33 : decode cX5_as 33 = .ok (.ifCond .ne 10, 3) := by decide +kernel
theorem dX5_as_36 : decode cX5_as 36 = .ok (.aload_n 0, 1) := by decide +kernel
theorem dX5_as_37 : decode cX5_as 37 = .ok (.ldc 90, 2) := by decide +kernel
theorem dX5_as_39 : decode cX5_as 39 = .ok (.invokevirtual 59, 3) := by decide +kernel
theorem dX5_as_42 : decode cX5_as 42 = .ok (.ireturn, 1) := by decide +kernel
theorem dX5_as_43 : decode cX5_as 43 = .ok (.aload_n 3, 1) := by decide +kernel
theorem dX5_as_44 : decode cX5_as 44 = .ok (.iconst 1, 1) := by decide +kernel
theorem dX5_as_45 : decode cX5_as 45 = .ok (.invokevirtual 80, 3) := by decide +kernel
theorem dX5_as_48 : decode cX5_as 48 = .ok (.ireturn, 1) := by decide +kernel
theorem dX5_date_0 : decode cX5_date 0 = .ok (.aload_n 0, 1) := by decide +kernel
theorem dX5_date_1 : decode cX5_date 1 = .ok (.getfield 12, 3) := by decide +kernel
theorem dX5_date_4 : decode cX5_date 4 = .ok (.iload_n 1, 1) := by decide +kernel
theorem dX5_date_5 : decode cX5_date 5 = .ok (.invokevirtual 72, 3) := by decide +kernel
theorem dX5_date_8 : decode cX5_date 8 = .ok (.astore 4, 2) := by decide +kernel
theorem dX5_date_10 : decode cX5_date 10 = .ok (.aload 4, 2) := by decide +kernel
theorem dX5_date_12 : decode cX5_date 12 = .ok (.ifnull 22, 3) := by decide +kernel
theorem dX5_date_15 : decode cX5_date 15 = .ok (.iload_n 2, 1) := by decide +kernel
theorem dX5_date_16 : decode cX5_date 16 = .ok (.iconst 0, 1) := by decide +kernel
theorem dX5_date_17 : decode cX5_date 17 = .ok (.ldc 91, 2) := by decide +kernel
theorem dX5_date_19 : decode cX5_date 19 = .ok (.invokestatic 92, 3) := by decide +kernel
theorem dX5_date_22 : decode cX5_date 22 = .ok (.ifCond .eq 12, 3) := by decide +kernel
theorem dX5_date_25 : decode cX5_date 25 = .ok (.iload_n 3, 1) := by decide +kernel
theorem dX5_date_26 : decode cX5_date 26 = .ok (.iconst 0, 1) := by decide +kernel
theorem dX5_date_27 : decode cX5_date 27 = .ok (.iconst 3, 1) := by decide +kernel
theorem dX5_date_28 : decode cX5_date 28 = .ok (.invokestatic 92, 3) := by decide +kernel
theorem dX5_date_31 : decode cX5_date 31 = .ok (.ifCond .ne 10, 3) := by decide +kernel
theorem dX5_date_34 : decode cX5_date 34 = .ok (.aload_n 0, 1) := by decide +kernel
theorem dX5_date_35 : decode cX5_date 35 = .ok (.ldc 58, 2) := by decide +kernel
theorem dX5_date_37 : decode cX5_date 37 = .ok (.invokevirtual 59, 3) := by decide +kernel
theorem dX5_date_40 : decode cX5_date 40 = .ok (.ireturn, 1) := by decide +kernel
theorem dX5_date_41 : decode cX5_date 41 = .ok (.iload_n 3, 1) := by decide +kernel
theorem dX5_date_42 : decode cX5_date 42 = .ok (.tableswitch 55 0 2 #[26, 33, 40], 26) := by decide +kernel
theorem dX5_date_68 : decode cX5_date 68 = .ok (.aload 4, 2) := by decide +kernel
theorem dX5_date_70 : decode cX5_date 70 = .ok (.iload_n 2, 1) := by decide +kernel
theorem dX5_date_71 : decode cX5_date 71 = .ok (.invokevirtual 96, 3) := by decide +kernel
theorem dX5_date_74 : decode cX5_date 74 = .ok (.ireturn, 1) := by decide +kernel
theorem dX5_date_75 : decode cX5_date 75 = .ok (.aload 4, 2) := by decide +kernel
theorem dX5_date_77 : decode cX5_date 77 = .ok (.iload_n 2, 1) := by decide +kernel
theorem dX5_date_78 : decode cX5_date 78 = .ok (.invokevirtual 99, 3) := by decide +kernel
theorem dX5_date_81 : decode cX5_date 81 = .ok (.ireturn, 1) := by decide +kernel
theorem dX5_date_82 : decode cX5_date 82 = .ok (.aload 4, 2) := by decide +kernel
theorem dX5_date_84 : decode cX5_date 84 = .ok (.iload_n 2, 1) := by decide +kernel
theorem dX5_date_85 : decode cX5_date 85 = .ok (.invokevirtual 102, 3) := by decide +kernel
theorem dX5_date_88 : decode cX5_date 88 = .ok (.ifCond .eq 7, 3) := by decide +kernel
theorem dX5_date_91 : decode cX5_date 91 = .ok (.iconst 1, 1) := by decide +kernel
theorem dX5_date_92 : decode cX5_date 92 = .ok (.goto 4, 3) := by decide +kernel
theorem dX5_date_95 : decode cX5_date 95 = .ok (.iconst 0, 1) := by decide +kernel
theorem dX5_date_96 : decode cX5_date 96 = .ok (.ireturn, 1) := by decide +kernel
theorem dX5_date_97 : decode cX5_date 97 = .ok (.aload 4, 2) := by decide +kernel
theorem dX5_date_99 : decode cX5_date 99 = .ok (.iload_n 2, 1) := by decide +kernel
theorem dX5_date_100 : decode cX5_date 100 = .ok (.invokevirtual 105, 3) := by decide +kernel
theorem dX5_date_103 : decode cX5_date 103 = .ok (.ireturn, 1) := by decide +kernel
theorem dX5_law_0 : decode cX5_law 0 = .ok (.iload_n 1, 1) := by decide +kernel
theorem dX5_law_1 : decode cX5_law 1 = .ok (.ifCond .ne 31, 3) := by decide +kernel
theorem dX5_law_4 : decode cX5_law 4 = .ok (.iload_n 2, 1) := by decide +kernel
theorem dX5_law_5 : decode cX5_law 5 = .ok (.iconst 1, 1) := by decide +kernel
theorem dX5_law_6 : decode cX5_law 6 = .ok (.bipush 50, 2) := by decide +kernel
theorem dX5_law_8 : decode cX5_law 8 = .ok (.invokestatic 92, 3) := by decide +kernel
theorem dX5_law_11 : decode cX5_law 11 = .ok (.ifCond .eq 21, 3) := by decide +kernel
theorem dX5_law_14 : decode cX5_law 14 = .ok (.aload_n 0, 1) := by decide +kernel
theorem dX5_law_15 : decode cX5_law 15 = .ok (.getfield 12, 3) := by decide +kernel
theorem dX5_law_18 : decode cX5_law 18 = .ok (.getfield 108, 3) := by decide +kernel
theorem dX5_law_21 : decode cX5_law 21 = .ok (.istore_n 3, 1) := by decide +kernel
theorem dX5_law_22 : decode cX5_law 22 = .ok (.aload_n 0, 1) := by decide +kernel
theorem dX5_law_23 : decode cX5_law 23 = .ok (.getfield 12, 3) := by decide +kernel
theorem dX5_law_26 : decode cX5_law 26 = .ok (.iload_n 2, 1) := by decide +kernel
theorem dX5_law_27 : decode cX5_law 27 = .ok (.putfield 108, 3) := by decide +kernel
theorem dX5_law_30 : decode cX5_law 30 = .ok (.iload_n 3, 1) := by decide +kernel
theorem dX5_law_31 : decode cX5_law 31 = .ok (.ireturn, 1) := by decide +kernel
theorem dX5_law_32 : decode cX5_law 32 = .ok (.iload_n 1, 1) := by decide +kernel
theorem dX5_law_33 : decode cX5_law 33 = .ok (.iconst 1, 1) := by decide +kernel
theorem dX5_law_34 : decode cX5_law 34 = .ok (.if_icmp .ne 30, 3) := by decide +kernel
theorem dX5_law_37 : decode cX5_law 37 = .ok (.iload_n 2, 1) := by decide +kernel
theorem dX5_law_38 : decode cX5_law 38 = .ok (.iconst 0, 1) := by decide +kernel
theorem dX5_law_39 : decode cX5_law 39 = .ok (.iconst 5, 1) := by decide +kernel
theorem dX5_law_40 : decode cX5_law 40 = .ok (.invokestatic 92, 3) := by decide +kernel
theorem dX5_law_43 : decode cX5_law 43 = .ok (.ifCond .eq 21, 3) := by decide +kernel
theorem dX5_law_46 : decode cX5_law 46 = .ok (.aload_n 0, 1) := by decide +kernel
theorem dX5_law_47 : decode cX5_law 47 = .ok (.getfield 12, 3) := by decide +kernel
theorem dX5_law_50 : decode cX5_law 50 = .ok (.getfield 111, 3) := by decide +kernel
theorem dX5_law_53 : decode cX5_law 53 = .ok (.istore_n 3, 1) := by decide +kernel
theorem dX5_law_54 : decode cX5_law 54 = .ok (.aload_n 0, 1) := by decide +kernel
theorem dX5_law_55 : decode cX5_law 55 = .ok (.getfield 12, 3) := by decide +kernel
theorem dX5_law_58 : decode cX5_law 58 = .ok (.iload_n 2, 1) := by decide +kernel
theorem dX5_law_59 : decode cX5_law 59 = .ok (.putfield 111, 3) := by decide +kernel
theorem dX5_law_62 : decode cX5_law 62 = .ok (.iload_n 3, 1) := by decide +kernel
theorem dX5_law_63 : decode cX5_law 63 = .ok (.ireturn, 1) := by decide +kernel
theorem dX5_law_64 : decode cX5_law 64 = .ok (.aload_n 0, 1) := by decide +kernel
theorem dX5_law_65 : decode cX5_law 65 = .ok (.ldc 58, 2) := by decide +kernel
theorem dX5_law_67 : decode cX5_law 67 = .ok (.invokevirtual 59, 3) := by decide +kernel
theorem dX5_law_70 : decode cX5_law 70 = .ok (.ireturn, 1) := by decide +kernel
theorem dX5_pilgrim_0 : decode cX5_pilgrim 0 = .ok (.iload_n 1, 1) := by decide +kernel
theorem dX5_pilgrim_1 : decode cX5_pilgrim 1 = .ok (.iconst 0, 1) := by decide +kernel
theorem dX5_pilgrim_2 : decode cX5_pilgrim 2 = .ok (.bipush 99, 2) := by decide +kernel
theorem dX5_pilgrim_4 : decode cX5_pilgrim 4 = .ok (.invokestatic 92, 3) := by decide +kernel
theorem dX5_pilgrim_7 : decode cX5_pilgrim 7 = .ok (.ifCond .eq 14, 3) := by decide +kernel
theorem dX5_pilgrim_10 : decode cX5_pilgrim 10 = .ok (.aload_n 0, 1) := by decide +kernel
theorem dX5_pilgrim_11 : decode cX5_pilgrim 11 = .ok (.getfield 12, 3) := by decide +kernel
theorem dX5_pilgrim_14 : decode cX5_pilgrim 14 = .ok (.iload_n 2, 1) := by decide +kernel
theorem dX5_pilgrim_15 : decode cX5_pilgrim 15 = .ok (.invokevirtual 114, 3) := by decide +kernel
theorem dX5_pilgrim_18 : decode cX5_pilgrim 18 = .ok (.ifCond .ne 10, 3) := by decide +kernel
theorem dX5_pilgrim_21 : decode cX5_pilgrim 21 = .ok (.aload_n 0, 1) := by decide +kernel
theorem dX5_pilgrim_22 : decode cX5_pilgrim 22 = .ok (.ldc 58, 2) := by decide +kernel
theorem dX5_pilgrim_24 : decode cX5_pilgrim 24 = .ok (.invokevirtual 59, 3) := by decide +kernel
theorem dX5_pilgrim_27 : decode cX5_pilgrim 27 = .ok (.ireturn, 1) := by decide +kernel
theorem dX5_pilgrim_28 : decode cX5_pilgrim 28 = .ok (.aload_n 0, 1) := by decide +kernel
theorem dX5_pilgrim_29 : decode cX5_pilgrim 29 = .ok (.getfield 12, 3) := by decide +kernel
theorem dX5_pilgrim_32 : decode cX5_pilgrim 32 = .ok (.getfield 117, 3) := by decide +kernel
theorem dX5_pilgrim_35 : decode cX5_pilgrim 35 = .ok (.bipush 8, 2) := by decide +kernel
theorem dX5_pilgrim_37 : decode cX5_pilgrim 37 = .ok (.if_icmp .lt 10, 3) := by decide +kernel
theorem dX5_pilgrim_40 : decode cX5_pilgrim 40 = .ok (.aload_n 0, 1) := by decide +kernel
theorem dX5_pilgrim_41 : decode cX5_pilgrim 41 = .ok (.ldc 67, 2) := by decide +kernel
theorem dX5_pilgrim_43 : decode cX5_pilgrim 43 = .ok (.invokevirtual 59, 3) := by decide +kernel
theorem dX5_pilgrim_46 : decode cX5_pilgrim 46 = .ok (.ireturn, 1) := by decide +kernel
theorem dX5_pilgrim_47 : decode cX5_pilgrim 47 = .ok (.aload_n 0, 1) := by decide +kernel
theorem dX5_pilgrim_48 : decode cX5_pilgrim 48 = .ok (.getfield 12, 3) := by decide +kernel
theorem dX5_pilgrim_51 : decode cX5_pilgrim 51 = .ok (.iload_n 1, 1) := by decide +kernel
theorem dX5_pilgrim_52 : decode cX5_pilgrim 52 = .ok (.iload_n 2, 1) := by decide +kernel
theorem dX5_pilgrim_53 : decode cX5_pilgrim 53 = .ok (.invokevirtual 120, 3) := by decide +kernel
theorem dX5_pilgrim_56 : decode cX5_pilgrim 56 = .ok (.aload_n 0, 1) := by decide +kernel
theorem dX5_pilgrim_57 : decode cX5_pilgrim 57 = .ok (.getfield 12, 3) := by decide +kernel
theorem dX5_pilgrim_60 : decode cX5_pilgrim 60 = .ok (.getfield 117, 3) := by decide +kernel
theorem dX5_pilgrim_63 : decode cX5_pilgrim 63 = .ok (.iconst 1, 1) := by decide +kernel
theorem dX5_pilgrim_64 : decode cX5_pilgrim 64 = .ok (.isub, 1) := by decide +kernel
theorem dX5_pilgrim_65 : decode cX5_pilgrim 65 = .ok (.ireturn, 1) := by decide +kernel
theorem dX5_about_0 : decode cX5_about 0 = .ok (.aload_n 0, 1) := by decide +kernel
theorem dX5_about_1 : decode cX5_about 1 = .ok (.getfield 12, 3) := by decide +kernel
theorem dX5_about_4 : decode cX5_about 4 = .ok (.iload_n 1, 1) := by decide +kernel
theorem dX5_about_5 : decode cX5_about 5 = .ok (.invokevirtual 124, 3) := by decide +kernel
theorem dX5_about_8 : decode cX5_about 8 = .ok (.astore_n 3, 1) := by decide +kernel
theorem dX5_about_9 : decode cX5_about 9 = .ok (.aload_n 3, 1) := by decide +kernel
theorem dX5_about_10 : decode cX5_about 10 = .ok (.ifnull 12, 3) := by decide +kernel
theorem dX5_about_13 : decode cX5_about 13 = .ok (.iload_n 2, 1) := by decide +kernel
theorem dX5_about_14 : decode cX5_about 14 = .ok (.iconst 0, 1) := by decide +kernel
theorem dX5_about_15 : decode cX5_about 15 = .ok (.iconst 2, 1) := by decide +kernel
theorem dX5_about_16 : decode cX5_about 16 = .ok (.invokestatic 92, 3) := by decide +kernel
theorem dX5_about_19 : decode cX5_about 19 = .ok (.ifCond .ne 10, 3) := by decide +kernel
theorem dX5_about_22 : decode cX5_about 22 = .ok (.aload_n 0, 1) := by decide +kernel
theorem dX5_about_23 : decode cX5_about 23 = .ok (.ldc 58, 2) := by decide +kernel
theorem dX5_about_25 : decode cX5_about 25 = .ok (.invokevirtual 59, 3) := by decide +kernel
theorem dX5_about_28 : decode cX5_about 28 = .ok (.ireturn, 1) := by decide +kernel
theorem dX5_about_29 : decode cX5_about 29 = .ok (.iload_n 2, 1) := by decide +kernel
theorem dX5_about_30 : decode cX5_about 30 = .ok (.ifCond .ne 8, 3) := by decide +kernel
theorem dX5_about_33 : decode cX5_about 33 = .ok (.aload_n 3, 1) := by decide +kernel
theorem dX5_about_34 : decode cX5_about 34 = .ok (.getfield 128, 3) := by decide +kernel
theorem dX5_about_37 : decode cX5_about 37 = .ok (.ireturn, 1) := by decide +kernel
theorem dX5_about_38 : decode cX5_about 38 = .ok (.iload_n 2, 1) := by decide +kernel
theorem dX5_about_39 : decode cX5_about 39 = .ok (.iconst 1, 1) := by decide +kernel
theorem dX5_about_40 : decode cX5_about 40 = .ok (.if_icmp .ne 10, 3) := by decide +kernel
theorem dX5_about_43 : decode cX5_about 43 = .ok (.aload_n 3, 1) := by decide +kernel
theorem dX5_about_44 : decode cX5_about 44 = .ok (.getfield 131, 3) := by decide +kernel
theorem dX5_about_47 : decode cX5_about 47 = .ok (.goto 7, 3) := by decide +kernel
theorem dX5_about_50 : decode cX5_about 50 = .ok (.aload_n 3, 1) := by decide +kernel
theorem dX5_about_51 : decode cX5_about 51 = .ok (.getfield 134, 3) := by decide +kernel
theorem dX5_about_54 : decode cX5_about 54 = .ok (.ireturn, 1) := by decide +kernel
theorem dX5_mind_0 : decode cX5_mind 0 = .ok (.aload_n 0, 1) := by decide +kernel
theorem dX5_mind_1 : decode cX5_mind 1 = .ok (.getfield 12, 3) := by decide +kernel
theorem dX5_mind_4 : decode cX5_mind 4 = .ok (.iload_n 1, 1) := by decide +kernel
theorem dX5_mind_5 : decode cX5_mind 5 = .ok (.invokevirtual 124, 3) := by decide +kernel
theorem dX5_mind_8 : decode cX5_mind 8 = .ok (.astore 4, 2) := by decide +kernel
theorem dX5_mind_10 : decode cX5_mind 10 = .ok (.aload 4, 2) := by decide +kernel
theorem dX5_mind_12 : decode cX5_mind 12 = .ok (.ifnonnull 10, 3) := by decide +kernel
theorem dX5_mind_15 : decode cX5_mind 15 = .ok (.aload_n 0, 1) := by decide +kernel
theorem dX5_mind_16 : decode cX5_mind 16 = .ok (.ldc 58, 2) := by decide +kernel
theorem dX5_mind_18 : decode cX5_mind 18 = .ok (.invokevirtual 59, 3) := by decide +kernel
theorem dX5_mind_21 : decode cX5_mind 21 = .ok (.ireturn, 1) := by decide +kernel
theorem dX5_mind_22 : decode cX5_mind 22 = .ok (.iload_n 2, 1) := by decide +kernel
theorem dX5_mind_23 : decode cX5_mind 23 = .ok (.ifCond .ne 29, 3) := by decide +kernel
theorem dX5_mind_26 : decode cX5_mind 26 = .ok (.iload_n 3, 1) := by decide +kernel
theorem dX5_mind_27 : decode cX5_mind 27 = .ok (.iconst 0, 1) := by decide +kernel
theorem dX5_mind_28 : decode cX5_mind 28 = .ok (.bipush 99, 2) := by decide +kernel
theorem dX5_mind_30 : decode cX5_mind 30 = .ok (.invokestatic 92, 3) := by decide +kernel
theorem dX5_mind_33 : decode cX5_mind 33 = .ok (.ifCond .eq 19, 3) := by decide +kernel
theorem dX5_mind_36 : decode cX5_mind 36 = .ok (.aload 4, 2) := by decide +kernel
theorem dX5_mind_38 : decode cX5_mind 38 = .ok (.getfield 128, 3) := by decide +kernel
theorem dX5_mind_41 : decode cX5_mind 41 = .ok (.istore 5, 2) := by decide +kernel
theorem dX5_mind_43 : decode cX5_mind 43 = .ok (.aload 4, 2) := by decide +kernel
theorem dX5_mind_45 : decode cX5_mind 45 = .ok (.iload_n 3, 1) := by decide +kernel
theorem dX5_mind_46 : decode cX5_mind 46 = .ok (.putfield 128, 3) := by decide +kernel
theorem dX5_mind_49 : decode cX5_mind 49 = .ok (.iload 5, 2) := by decide +kernel
theorem dX5_mind_51 : decode cX5_mind 51 = .ok (.ireturn, 1) := by decide +kernel
theorem dX5_mind_52 : decode cX5_mind 52 = .ok (.iload_n 2, 1) := by decide +kernel
theorem dX5_mind_53 : decode cX5_mind 53 = .ok (.iconst 1, 1) := by decide +kernel
theorem dX5_mind_54 : decode cX5_mind 54 = .ok (.if_icmp .ne 30, 3) := by decide +kernel
theorem dX5_mind_57 : decode cX5_mind 57 = .ok (.aload_n 0, 1) := by decide +kernel
theorem dX5_mind_58 : decode cX5_mind 58 = .ok (.getfield 12, 3) := by decide +kernel
theorem dX5_mind_61 : decode cX5_mind 61 = .ok (.iload_n 3, 1) := by decide +kernel
theorem dX5_mind_62 : decode cX5_mind 62 = .ok (.invokevirtual 114, 3) := by decide +kernel
theorem dX5_mind_65 : decode cX5_mind 65 = .ok (.ifCond .eq 19, 3) := by decide +kernel
theorem dX5_mind_68 : decode cX5_mind 68 = .ok (.aload 4, 2) := by decide +kernel
theorem dX5_mind_70 : decode cX5_mind 70 = .ok (.getfield 131, 3) := by decide +kernel
theorem dX5_mind_73 : decode cX5_mind 73 = .ok (.istore 5, 2) := by decide +kernel
theorem dX5_mind_75 : decode cX5_mind 75 = .ok (.aload 4, 2) := by decide +kernel
theorem dX5_mind_77 : decode cX5_mind 77 = .ok (.iload_n 3, 1) := by decide +kernel
theorem dX5_mind_78 : decode cX5_mind 78 = .ok (.putfield 131, 3) := by decide +kernel
theorem dX5_mind_81 : decode cX5_mind 81 = .ok (.iload 5, 2) := by decide +kernel
theorem dX5_mind_83 : decode cX5_mind 83 = .ok (.ireturn, 1) := by decide +kernel
theorem dX5_mind_84 : decode cX5_mind 84 = .ok (.aload_n 0, 1) := by decide +kernel
theorem dX5_mind_85 : decode cX5_mind 85 = .ok (.ldc 58, 2) := by decide +kernel
theorem dX5_mind_87 : decode cX5_mind 87 = .ok (.invokevirtual 59, 3) := by decide +kernel
theorem dX5_mind_90 : decode cX5_mind 90 = .ok (.ireturn, 1) := by decide +kernel
theorem dX5_drink_0 : decode cX5_drink 0 = .ok (.aload_n 0, 1) := by decide +kernel
theorem dX5_drink_1 : decode cX5_drink 1 = .ok (.getfield 12, 3) := by decide +kernel
theorem dX5_drink_4 : decode cX5_drink 4 = .ok (.iload_n 1, 1) := by decide +kernel
theorem dX5_drink_5 : decode cX5_drink 5 = .ok (.invokevirtual 124, 3) := by decide +kernel
theorem dX5_drink_8 : decode cX5_drink 8 = .ok (.astore_n 3, 1) := by decide +kernel
theorem dX5_drink_9 : decode cX5_drink 9 = .ok (.aload_n 3, 1) := by decide +kernel
theorem dX5_drink_10 : decode cX5_drink 10 = .ok (.ifnull 12, 3) := by decide +kernel
theorem dX5_drink_13 : decode cX5_drink 13 = .ok (.iload_n 2, 1) := by decide +kernel
theorem dX5_drink_14 : decode cX5_drink 14 = .ok (.iconst 0, 1) := by decide +kernel
theorem dX5_drink_15 : decode cX5_drink 15 = .ok (.iconst 1, 1) := by decide +kernel
theorem dX5_drink_16 : decode cX5_drink 16 = .ok (.invokestatic 92, 3) := by decide +kernel
theorem dX5_drink_19 : decode cX5_drink 19 = .ok (.ifCond .ne 10, 3) := by decide +kernel
theorem dX5_drink_22 : decode cX5_drink 22 = .ok (.aload_n 0, 1) := by decide +kernel
theorem dX5_drink_23 : decode cX5_drink 23 = .ok (.ldc 58, 2) := by decide +kernel
theorem dX5_drink_25 : decode cX5_drink 25 = .ok (.invokevirtual 59, 3) := by decide +kernel
theorem dX5_drink_28 : decode cX5_drink 28 = .ok (.ireturn, 1) := by decide +kernel
theorem dX5_drink_29 : decode cX5_drink 29 = .ok (.iload_n 2, 1) := by decide +kernel
theorem dX5_drink_30 : decode cX5_drink 30 = .ok (.iconst 1, 1) := by decide +kernel
theorem dX5_drink_31 : decode cX5_drink 31 = .ok (.if_icmp .ne 7, 3) := by decide +kernel
theorem dX5_drink_34 : decode cX5_drink 34 = .ok (.iconst 1, 1) := by decide +kernel
theorem dX5_drink_35 : decode cX5_drink 35 = .ok (.goto 4, 3) := by decide +kernel
theorem dX5_drink_38 : decode cX5_drink 38 = .ok (.iconst 0, 1) := by decide +kernel
theorem dX5_drink_39 : decode cX5_drink 39 = .ok (.istore 4, 2) := by decide +kernel
theorem dX5_drink_41 : decode cX5_drink 41 = .ok (.aload_n 0, 1) := by decide +kernel
theorem dX5_drink_42 : decode cX5_drink 42 = .ok (.getfield 12, 3) := by decide +kernel
theorem dX5_drink_45 : decode cX5_drink 45 = .ok (.iload 4, 2) := by decide +kernel
theorem dX5_drink_47 : decode cX5_drink 47 = .ok (.invokevirtual 137, 3) := by decide +kernel
theorem dX5_drink_50 : decode cX5_drink 50 = .ok (.ifCond .ne 10, 3) := by decide +kernel
theorem dX5_drink_53 : decode cX5_drink 53 = .ok (.aload_n 0, 1) := by decide +kernel
theorem dX5_drink_54 : decode cX5_drink 54 = .ok (.ldc 141, 2) := by decide +kernel
theorem dX5_drink_56 : decode cX5_drink 56 = .ok (.invokevirtual 59, 3) := by decide +kernel
theorem dX5_drink_59 : decode cX5_drink 59 = .ok (.ireturn, 1) := by decide +kernel
theorem dX5_drink_60 : decode cX5_drink 60 = .ok (.aload_n 3, 1) := by decide +kernel
theorem dX5_drink_61 : decode cX5_drink 61 = .ok (.iload 4, 2) := by decide +kernel
theorem dX5_drink_63 : decode cX5_drink 63 = .ok (.aload_n 0, 1) := by decide +kernel
theorem dX5_drink_64 : decode cX5_drink 64 = .ok (.getfield 12, 3) := by decide +kernel
theorem dX5_drink_67 : decode cX5_drink 67 = .ok (.getfield 108, 3) := by decide +kernel
theorem dX5_drink_70 : decode cX5_drink 70 = .ok (.invokevirtual 142, 3) := by decide +kernel
theorem dX5_drink_73 : decode cX5_drink 73 = .ok (.aload_n 3, 1) := by decide +kernel
theorem dX5_drink_74 : decode cX5_drink 74 = .ok (.getfield 128, 3) := by decide +kernel
theorem dX5_drink_77 : decode cX5_drink 77 = .ok (.ireturn, 1) := by decide +kernel
theorem dX5_bathe_0 : decode cX5_bathe 0 = .ok (.aload_n 0, 1) := by decide +kernel
theorem dX5_bathe_1 : decode cX5_bathe 1 = .ok (.getfield 12, 3) := by decide +kernel
theorem dX5_bathe_4 : decode cX5_bathe 4 = .ok (.iload_n 1, 1) := by decide +kernel
theorem dX5_bathe_5 : decode cX5_bathe 5 = .ok (.invokevirtual 124, 3) := by decide +kernel
theorem dX5_bathe_8 : decode cX5_bathe 8 = .ok (.astore_n 2, 1) := by decide +kernel
theorem dX5_bathe_9 : decode cX5_bathe 9 = .ok (.aload_n 2, 1) := by decide +kernel
theorem dX5_bathe_10 : decode cX5_bathe 10 = .ok (.ifnonnull 10, 3) := by decide +kernel
theorem dX5_bathe_13 : decode cX5_bathe 13 = .ok (.aload_n 0, 1) := by decide +kernel
theorem dX5_bathe_14 : decode cX5_bathe 14 = .ok (.ldc 58, 2) := by decide +kernel
theorem dX5_bathe_16 : decode cX5_bathe 16 = .ok (.invokevirtual 59, 3) := by decide +kernel
theorem dX5_bathe_19 : decode cX5_bathe 19 = .ok (.ireturn, 1) := by decide +kernel
theorem dX5_bathe_20 : decode cX5_bathe 20 = .ok (.aload_n 2, 1) := by decide +kernel
theorem dX5_bathe_21 : decode cX5_bathe 21 = .ok (.aload_n 0, 1) := by decide +kernel
theorem dX5_bathe_22 : decode cX5_bathe 22 = .ok (.getfield 12, 3) := by decide +kernel
theorem dX5_bathe_25 : decode cX5_bathe 25 = .ok (.aload_n 0, 1) := by decide +kernel
theorem dX5_bathe_26 : decode cX5_bathe 26 = .ok (.getfield 12, 3) := by decide +kernel
theorem dX5_bathe_29 : decode cX5_bathe 29 = .ok (.getfield 111, 3) := by decide +kernel
theorem dX5_bathe_32 : decode cX5_bathe 32 = .ok (.aload_n 0, 1) := by decide +kernel
theorem dX5_bathe_33 : decode cX5_bathe 33 = .ok (.getfield 12, 3) := by decide +kernel
theorem dX5_bathe_36 : decode cX5_bathe 36 = .ok (.getfield 146, 3) := by decide +kernel
theorem dX5_bathe_39 : decode cX5_bathe 39 = .ok (.invokevirtual 149, 3) := by decide +kernel
theorem dX5_bathe_42 : decode cX5_bathe 42 = .ok (.aload_n 0, 1) := by decide +kernel
theorem dX5_bathe_43 : decode cX5_bathe 43 = .ok (.getfield 12, 3) := by decide +kernel
theorem dX5_bathe_46 : decode cX5_bathe 46 = .ok (.getfield 108, 3) := by decide +kernel
theorem dX5_bathe_49 : decode cX5_bathe 49 = .ok (.invokevirtual 152, 3) := by decide +kernel
theorem dX5_bathe_52 : decode cX5_bathe 52 = .ok (.aload_n 2, 1) := by decide +kernel
theorem dX5_bathe_53 : decode cX5_bathe 53 = .ok (.getfield 128, 3) := by decide +kernel
theorem dX5_bathe_56 : decode cX5_bathe 56 = .ok (.ireturn, 1) := by decide +kernel
theorem dX5_days_0 : decode cX5_days 0 = .ok (.iload_n 1, 1) := by decide +kernel
theorem dX5_days_1 : decode cX5_days 1 = .ok (.iconst 1, 1) := by decide +kernel
theorem dX5_days_2 : decode cX5_days 2 = .ok (.sipush 400, 3) := by decide +kernel
theorem dX5_days_5 : decode cX5_days 5 = .ok (.invokestatic 92, 3) := by decide +kernel
theorem dX5_days_8 : decode cX5_days 8 = .ok (.ifCond .ne 10, 3) := by decide +kernel
theorem dX5_days_11 : decode cX5_days 11 = .ok (.aload_n 0, 1) := by decide +kernel
theorem dX5_days_12 : decode cX5_days 12 = .ok (.ldc 58, 2) := by decide +kernel
theorem dX5_days_14 : decode cX5_days 14 = .ok (.invokevirtual 59, 3) := by decide +kernel
theorem dX5_days_17 : decode cX5_days 17 = .ok (.ireturn, 1) := by decide +kernel
theorem dX5_days_18 : decode cX5_days 18 = .ok (.aload_n 0, 1) := by decide +kernel
theorem dX5_days_19 : decode cX5_days 19 = .ok (.getfield 12, 3) := by decide +kernel
theorem dX5_days_22 : decode cX5_days 22 = .ok (.getfield 146, 3) := by decide +kernel
theorem dX5_days_25 : decode cX5_days 25 = .ok (.ldc 91, 2) := by decide +kernel
theorem dX5_days_27 : decode cX5_days 27 = .ok (.iload_n 1, 1) := by decide +kernel
theorem dX5_days_28 : decode cX5_days 28 = .ok (.isub, 1) := by decide +kernel
theorem dX5_days_29 : decode cX5_days 29 = .ok (.if_icmp .le 10, 3) := by decide +kernel
theorem dX5_days_32 : decode cX5_days 32 = .ok (.aload_n 0, 1) := by decide +kernel
theorem dX5_days_33 : decode cX5_days 33 = .ok (.ldc 141, 2) := by decide +kernel
theorem dX5_days_35 : decode cX5_days 35 = .ok (.invokevirtual 59, 3) := by decide +kernel
theorem dX5_days_38 : decode cX5_days 38 = .ok (.ireturn, 1) := by decide +kernel
theorem dX5_days_39 : decode cX5_days 39 = .ok (.iconst 0, 1) := by decide +kernel
theorem dX5_days_40 : decode cX5_days 40 = .ok (.istore_n 2, 1) := by decide +kernel
theorem dX5_days_41 : decode cX5_days 41 = .ok (.iload_n 2, 1) := by decide +kernel
theorem dX5_days_42 : decode cX5_days 42 = .ok (.iload_n 1, 1) := by decide +kernel
theorem dX5_days_43 : decode cX5_days 43 = .ok (.if_icmp .ge 16, 3) := by decide +kernel
theorem dX5_days_46 : decode cX5_days 46 = .ok (.aload_n 0, 1) := by decide +kernel
theorem dX5_days_47 : decode cX5_days 47 = .ok (.getfield 12, 3) := by decide +kernel
theorem dX5_days_50 : decode cX5_days 50 = .ok (.invokevirtual 155, 3) := by decide +kernel
theorem dX5_days_53 : decode cX5_days 53 = .ok (.iinc 2 1, 3) := by decide +kernel
theorem dX5_days_56 : decode cX5_days 56 = .ok (.goto (-15), 3) := by decide +kernel
theorem dX5_days_59 : decode cX5_days 59 = .ok (.aload_n 0, 1) := by decide +kernel
theorem dX5_days_60 : decode cX5_days 60 = .ok (.getfield 12, 3) := by decide +kernel
theorem dX5_days_63 : decode cX5_days 63 = .ok (.invokevirtual 158, 3) := by decide +kernel
theorem dX5_days_66 : decode cX5_days 66 = .ok (.invokestatic 162, 3) := by decide +kernel
theorem dX5_days_69 : decode cX5_days 69 = .ok (.ireturn, 1) := by decide +kernel
theorem dX5_now_0 : decode cX5_now 0 = .ok (.iload_n 1, 1) := by decide +kernel
theorem dX5_now_1 : decode cX5_now 1 = .ok (.tableswitch 99 0 6 #[43, 51, 59, 67, 75, 83, 91], 43) := by decide +kernel
theorem dX5_now_44 : decode cX5_now 44 = .ok (.aload_n 0, 1) := by decide +kernel
theorem dX5_now_45 : decode cX5_now 45 = .ok (.getfield 12, 3) := by decide +kernel
theorem dX5_now_48 : decode cX5_now 48 = .ok (.getfield 146, 3) := by decide +kernel
theorem dX5_now_51 : decode cX5_now 51 = .ok (.ireturn, 1) := by decide +kernel
theorem dX5_now_52 : decode cX5_now 52 = .ok (.aload_n 0, 1) := by decide +kernel
theorem dX5_now_53 : decode cX5_now 53 = .ok (.getfield 12, 3) := by decide +kernel
theorem dX5_now_56 : decode cX5_now 56 = .ok (.getfield 108, 3) := by decide +kernel
theorem dX5_now_59 : decode cX5_now 59 = .ok (.ireturn, 1) := by decide +kernel
theorem dX5_now_60 : decode cX5_now 60 = .ok (.aload_n 0, 1) := by decide +kernel
theorem dX5_now_61 : decode cX5_now 61 = .ok (.getfield 12, 3) := by decide +kernel
theorem dX5_now_64 : decode cX5_now 64 = .ok (.getfield 111, 3) := by decide +kernel
theorem dX5_now_67 : decode cX5_now 67 = .ok (.ireturn, 1) := by decide +kernel
theorem dX5_now_68 : decode cX5_now 68 = .ok (.aload_n 0, 1) := by decide +kernel
theorem dX5_now_69 : decode cX5_now 69 = .ok (.getfield 12, 3) := by decide +kernel
theorem dX5_now_72 : decode cX5_now 72 = .ok (.getfield 167, 3) := by decide +kernel
theorem dX5_now_75 : decode cX5_now 75 = .ok (.ireturn, 1) := by decide +kernel
theorem dX5_now_76 : decode cX5_now 76 = .ok (.aload_n 0, 1) := by decide +kernel
theorem dX5_now_77 : decode cX5_now 77 = .ok (.getfield 12, 3) := by decide +kernel
theorem dX5_now_80 : decode cX5_now 80 = .ok (.getfield 170, 3) := by decide +kernel
theorem dX5_now_83 : decode cX5_now 83 = .ok (.ireturn, 1) := by decide +kernel
theorem dX5_now_84 : decode cX5_now 84 = .ok (.aload_n 0, 1) := by decide +kernel
theorem dX5_now_85 : decode cX5_now 85 = .ok (.getfield 12, 3) := by decide +kernel
theorem dX5_now_88 : decode cX5_now 88 = .ok (.invokevirtual 173, 3) := by decide +kernel
theorem dX5_now_91 : decode cX5_now 91 = .ok (.ireturn, 1) := by decide +kernel
theorem dX5_now_92 : decode cX5_now 92 = .ok (.aload_n 0, 1) := by decide +kernel
theorem dX5_now_93 : decode cX5_now 93 = .ok (.getfield 12, 3) := by decide +kernel
theorem dX5_now_96 : decode cX5_now 96 = .ok (.invokevirtual 158, 3) := by decide +kernel
theorem dX5_now_99 : decode cX5_now 99 = .ok (.ireturn, 1) := by decide +kernel
theorem dX5_now_100 : decode cX5_now 100 = .ok (.aload_n 0, 1) := by decide +kernel
theorem dX5_now_101 : decode cX5_now 101 = .ok (.ldc 58, 2) := by decide +kernel
theorem dX5_now_103 : decode cX5_now 103 = .ok (.invokevirtual 59, 3) := by decide +kernel
theorem dX5_now_106 : decode cX5_now 106 = .ok (.ireturn, 1) := by decide +kernel
theorem dX5_on_0 : decode cX5_on 0 = .ok (.aload_n 0, 1) := by decide +kernel
theorem dX5_on_1 : decode cX5_on 1 = .ok (.getfield 12, 3) := by decide +kernel
theorem dX5_on_4 : decode cX5_on 4 = .ok (.iload_n 1, 1) := by decide +kernel
theorem dX5_on_5 : decode cX5_on 5 = .ok (.invokevirtual 124, 3) := by decide +kernel
theorem dX5_on_8 : decode cX5_on 8 = .ok (.astore 4, 2) := by decide +kernel
theorem dX5_on_10 : decode cX5_on 10 = .ok (.aload 4, 2) := by decide +kernel
theorem dX5_on_12 : decode cX5_on 12 = .ok (.ifnull 23, 3) := by decide +kernel
theorem dX5_on_15 : decode cX5_on 15 = .ok (.iload_n 2, 1) := by decide +kernel
theorem dX5_on_16 : decode cX5_on 16 = .ok (.iconst 0, 1) := by decide +kernel
theorem dX5_on_17 : decode cX5_on 17 = .ok (.sipush 400, 3) := by decide +kernel
theorem dX5_on_20 : decode cX5_on 20 = .ok (.invokestatic 92, 3) := by decide +kernel
theorem dX5_on_23 : decode cX5_on 23 = .ok (.ifCond .eq 12, 3) := by decide +kernel
theorem dX5_on_26 : decode cX5_on 26 = .ok (.iload_n 3, 1) := by decide +kernel
theorem dX5_on_27 : decode cX5_on 27 = .ok (.iconst 0, 1) := by decide +kernel
theorem dX5_on_28 : decode cX5_on 28 = .ok (.iconst 1, 1) := by decide +kernel
theorem dX5_on_29 : decode cX5_on 29 = .ok (.invokestatic 92, 3) := by decide +kernel
theorem dX5_on_32 : decode cX5_on 32 = .ok (.ifCond .ne 10, 3) := by decide +kernel
theorem dX5_on_35 : decode cX5_on 35 = .ok (.aload_n 0, 1) := by decide +kernel
theorem dX5_on_36 : decode cX5_on 36 = .ok (.ldc 58, 2) := by decide +kernel
theorem dX5_on_38 : decode cX5_on 38 = .ok (.invokevirtual 59, 3) := by decide +kernel
theorem dX5_on_41 : decode cX5_on 41 = .ok (.ireturn, 1) := by decide +kernel
theorem dX5_on_42 : decode cX5_on 42 = .ok (.aload_n 0, 1) := by decide +kernel
theorem dX5_on_43 : decode cX5_on 43 = .ok (.iload_n 2, 1) := by decide +kernel
theorem dX5_on_44 : decode cX5_on 44 = .ok (.invokevirtual 176, 3) := by decide +kernel
theorem dX5_on_47 : decode cX5_on 47 = .ok (.aload_n 0, 1) := by decide +kernel
theorem dX5_on_48 : decode cX5_on 48 = .ok (.aload 4, 2) := by decide +kernel
theorem dX5_on_50 : decode cX5_on 50 = .ok (.iload_n 2, 1) := by decide +kernel
theorem dX5_on_51 : decode cX5_on 51 = .ok (.aload_n 0, 1) := by decide +kernel
theorem dX5_on_52 : decode cX5_on 52 = .ok (.getfield 12, 3) := by decide +kernel
theorem dX5_on_55 : decode cX5_on 55 = .ok (.getfield 111, 3) := by decide +kernel
theorem dX5_on_58 : decode cX5_on 58 = .ok (.aload_n 0, 1) := by decide +kernel
theorem dX5_on_59 : decode cX5_on 59 = .ok (.getfield 12, 3) := by decide +kernel
theorem dX5_on_62 : decode cX5_on 62 = .ok (.getfield 108, 3) := by decide +kernel
theorem dX5_on_65 : decode cX5_on 65 = .ok (.invokevirtual 179, 3) := by decide +kernel
theorem dX5_on_68 : decode cX5_on 68 = .ok (.iload_n 3, 1) := by decide +kernel
theorem dX5_on_69 : decode cX5_on 69 = .ok (.ifCond .ne 13, 3) := by decide +kernel
theorem dX5_on_72 : decode cX5_on 72 = .ok (.aload_n 0, 1) := by decide +kernel
theorem dX5_on_73 : decode cX5_on 73 = .ok (.getfield 42, 3) := by decide +kernel
theorem dX5_on_76 : decode cX5_on 76 = .ok (.getfield 128, 3) := by decide +kernel
theorem dX5_on_79 : decode cX5_on 79 = .ok (.goto 10, 3) := by decide +kernel
theorem dX5_on_82 : decode cX5_on 82 = .ok (.aload_n 0, 1) := by decide +kernel
theorem dX5_on_83 : decode cX5_on 83 = .ok (.getfield 42, 3) := by decide +kernel
theorem dX5_on_86 : decode cX5_on 86 = .ok (.getfield 134, 3) := by decide +kernel
theorem dX5_on_89 : decode cX5_on 89 = .ok (.ireturn, 1) := by decide +kernel
theorem dX5_well_0 : decode cX5_well 0 = .ok (.aload_n 0, 1) := by decide +kernel
theorem dX5_well_1 : decode cX5_well 1 = .ok (.getfield 12, 3) := by decide +kernel
theorem dX5_well_4 : decode cX5_well 4 = .ok (.iload_n 1, 1) := by decide +kernel
theorem dX5_well_5 : decode cX5_well 5 = .ok (.invokevirtual 124, 3) := by decide +kernel
theorem dX5_well_8 : decode cX5_well 8 = .ok (.astore_n 2, 1) := by decide +kernel
theorem dX5_well_9 : decode cX5_well 9 = .ok (.aload_n 2, 1) := by decide +kernel
theorem dX5_well_10 : decode cX5_well 10 = .ok (.ifnonnull 10, 3) := by decide +kernel
theorem dX5_well_13 : decode cX5_well 13 = .ok (.aload_n 0, 1) := by decide +kernel
theorem dX5_well_14 : decode cX5_well 14 = .ok (.ldc 58, 2) := by decide +kernel
theorem dX5_well_16 : decode cX5_well 16 = .ok (.invokevirtual 59, 3) := by decide +kernel
theorem dX5_well_19 : decode cX5_well 19 = .ok (.ireturn, 1) := by decide +kernel
theorem dX5_well_20 : decode cX5_well 20 = .ok (.aload_n 0, 1) := by decide +kernel
theorem dX5_well_21 : decode cX5_well 21 = .ok (.sipush 400, 3) := by decide +kernel
theorem dX5_well_24 : decode cX5_well 24 = .ok (.invokevirtual 176, 3) := by decide +kernel
theorem dX5_well_27 : decode cX5_well 27 = .ok (.aload_n 0, 1) := by decide +kernel
theorem dX5_well_28 : decode cX5_well 28 = .ok (.aload_n 2, 1) := by decide +kernel
theorem dX5_well_29 : decode cX5_well 29 = .ok (.aload_n 2, 1) := by decide +kernel
theorem dX5_well_30 : decode cX5_well 30 = .ok (.getfield 131, 3) := by decide +kernel
theorem dX5_well_33 : decode cX5_well 33 = .ok (.invokevirtual 183, 3) := by decide +kernel
theorem dX5_well_36 : decode cX5_well 36 = .ok (.istore_n 3, 1) := by decide +kernel
theorem dX5_well_37 : decode cX5_well 37 = .ok (.iload_n 3, 1) := by decide +kernel
theorem dX5_well_38 : decode cX5_well 38 = .ok (.sipush 401, 3) := by decide +kernel
theorem dX5_well_41 : decode cX5_well 41 = .ok (.if_icmp .ne 12, 3) := by decide +kernel
theorem dX5_well_44 : decode cX5_well 44 = .ok (.aload_n 0, 1) := by decide +kernel
theorem dX5_well_45 : decode cX5_well 45 = .ok (.ldc 187, 2) := by decide +kernel
theorem dX5_well_47 : decode cX5_well 47 = .ok (.invokevirtual 59, 3) := by decide +kernel
theorem dX5_well_50 : decode cX5_well 50 = .ok (.goto 4, 3) := by decide +kernel
theorem dX5_well_53 : decode cX5_well 53 = .ok (.iload_n 3, 1) := by decide +kernel
theorem dX5_well_54 : decode cX5_well 54 = .ok (.ireturn, 1) := by decide +kernel
theorem dX5_next_0 : decode cX5_next 0 = .ok (.aload_n 0, 1) := by decide +kernel
theorem dX5_next_1 : decode cX5_next 1 = .ok (.getfield 12, 3) := by decide +kernel
theorem dX5_next_4 : decode cX5_next 4 = .ok (.iload_n 1, 1) := by decide +kernel
theorem dX5_next_5 : decode cX5_next 5 = .ok (.invokevirtual 72, 3) := by decide +kernel
theorem dX5_next_8 : decode cX5_next 8 = .ok (.astore_n 2, 1) := by decide +kernel
theorem dX5_next_9 : decode cX5_next 9 = .ok (.aload_n 2, 1) := by decide +kernel
theorem dX5_next_10 : decode cX5_next 10 = .ok (.ifnonnull 10, 3) := by decide +kernel
theorem dX5_next_13 : decode cX5_next 13 = .ok (.aload_n 0, 1) := by decide +kernel
theorem dX5_next_14 : decode cX5_next 14 = .ok (.ldc 58, 2) := by decide +kernel
theorem dX5_next_16 : decode cX5_next 16 = .ok (.invokevirtual 59, 3) := by decide +kernel
theorem dX5_next_19 : decode cX5_next 19 = .ok (.ireturn, 1) := by decide +kernel
theorem dX5_next_20 : decode cX5_next 20 = .ok (.iconst 0, 1) := by decide +kernel
theorem dX5_next_21 : decode cX5_next 21 = .ok (.istore_n 3, 1) := by decide +kernel
theorem dX5_next_22 : decode cX5_next 22 = .ok (.iload_n 3, 1) := by decide +kernel
theorem dX5_next_23 : decode cX5_next 23 = .ok (.sipush 400, 3) := by decide +kernel
theorem dX5_next_26 : decode cX5_next 26 = .ok (.if_icmp .gt 35, 3) := by decide +kernel
theorem dX5_next_29 : decode cX5_next 29 = .ok (.aload_n 2, 1) := by decide +kernel
theorem dX5_next_30 : decode cX5_next 30 = .ok (.aload_n 0, 1) := by decide +kernel
theorem dX5_next_31 : decode cX5_next 31 = .ok (.getfield 12, 3) := by decide +kernel
theorem dX5_next_34 : decode cX5_next 34 = .ok (.getfield 146, 3) := by decide +kernel
theorem dX5_next_37 : decode cX5_next 37 = .ok (.iload_n 3, 1) := by decide +kernel
theorem dX5_next_38 : decode cX5_next 38 = .ok (.iadd, 1) := by decide +kernel
theorem dX5_next_39 : decode cX5_next 39 = .ok (.invokevirtual 102, 3) := by decide +kernel
theorem dX5_next_42 : decode cX5_next 42 = .ok (.ifCond .eq 13, 3) := by decide +kernel
theorem dX5_next_45 : decode cX5_next 45 = .ok (.aload_n 0, 1) := by decide +kernel
theorem dX5_next_46 : decode cX5_next 46 = .ok (.getfield 12, 3) := by decide +kernel
theorem dX5_next_49 : decode cX5_next 49 = .ok (.getfield 146, 3) := by decide +kernel
theorem dX5_next_52 : decode cX5_next 52 = .ok (.iload_n 3, 1) := by decide +kernel
theorem dX5_next_53 : decode cX5_next 53 = .ok (.iadd, 1) := by decide +kernel
theorem dX5_next_54 : decode cX5_next 54 = .ok (.ireturn, 1) := by decide +kernel
theorem dX5_next_55 : decode cX5_next 55 = .ok (.iinc 3 1, 3) := by decide +kernel
theorem dX5_next_58 : decode cX5_next 58 = .ok (.goto (-36), 3) := by decide +kernel
theorem dX5_next_61 : decode cX5_next 61 = .ok (.aload_n 0, 1) := by decide +kernel
theorem dX5_next_62 : decode cX5_next 62 = .ok (.ldc 187, 2) := by decide +kernel
theorem dX5_next_64 : decode cX5_next 64 = .ok (.invokevirtual 59, 3) := by decide +kernel
theorem dX5_next_67 : decode cX5_next 67 = .ok (.ireturn, 1) := by decide +kernel
theorem dX5_agree_0 : decode cX5_agree 0 = .ok (.aload_n 0, 1) := by decide +kernel
theorem dX5_agree_1 : decode cX5_agree 1 = .ok (.getfield 12, 3) := by decide +kernel
theorem dX5_agree_4 : decode cX5_agree 4 = .ok (.iload_n 1, 1) := by decide +kernel
theorem dX5_agree_5 : decode cX5_agree 5 = .ok (.iload_n 2, 1) := by decide +kernel
theorem dX5_agree_6 : decode cX5_agree 6 = .ok (.invokevirtual 188, 3) := by decide +kernel
theorem dX5_agree_9 : decode cX5_agree 9 = .ok (.ifCond .eq 14, 3) := by decide +kernel
theorem dX5_agree_12 : decode cX5_agree 12 = .ok (.iload_n 3, 1) := by decide +kernel
theorem dX5_agree_13 : decode cX5_agree 13 = .ok (.iconst 1, 1) := by decide +kernel
theorem dX5_agree_14 : decode cX5_agree 14 = .ok (.sipush 400, 3) := by decide +kernel
theorem dX5_agree_17 : decode cX5_agree 17 = .ok (.invokestatic 92, 3) := by decide +kernel
theorem dX5_agree_20 : decode cX5_agree 20 = .ok (.ifCond .ne 10, 3) := by decide +kernel
theorem dX5_agree_23 : decode cX5_agree 23 = .ok (.aload_n 0, 1) := by decide +kernel
theorem dX5_agree_24 : decode cX5_agree 24 = .ok (.ldc 58, 2) := by decide +kernel
theorem dX5_agree_26 : decode cX5_agree 26 = .ok (.invokevirtual 59, 3) := by decide +kernel
theorem dX5_agree_29 : decode cX5_agree 29 = .ok (.ireturn, 1) := by decide +kernel
theorem dX5_agree_30 : decode cX5_agree 30 = .ok (.aload_n 0, 1) := by decide +kernel
theorem dX5_agree_31 : decode cX5_agree 31 = .ok (.iload_n 3, 1) := by decide +kernel
theorem dX5_agree_32 : decode cX5_agree 32 = .ok (.invokevirtual 176, 3) := by decide +kernel
theorem dX5_agree_35 : decode cX5_agree 35 = .ok (.iconst 0, 1) := by decide +kernel
theorem dX5_agree_36 : decode cX5_agree 36 = .ok (.istore 4, 2) := by decide +kernel
theorem dX5_agree_38 : decode cX5_agree 38 = .ok (.iconst 0, 1) := by decide +kernel
theorem dX5_agree_39 : decode cX5_agree 39 = .ok (.istore 5, 2) := by decide +kernel
theorem dX5_agree_41 : decode cX5_agree 41 = .ok (.iload 5, 2) := by decide +kernel
theorem dX5_agree_43 : decode cX5_agree 43 = .ok (.iload_n 3, 1) := by decide +kernel
theorem dX5_agree_44 : decode cX5_agree 44 = .ok (.if_icmp .ge 23, 3) := by decide +kernel
theorem dX5_agree_47 : decode cX5_agree 47 = .ok (.aload_n 0, 1) := by decide +kernel
theorem dX5_agree_48 : decode cX5_agree 48 = .ok (.iload_n 1, 1) := by decide +kernel
theorem dX5_agree_49 : decode cX5_agree 49 = .ok (.iload_n 2, 1) := by decide +kernel
theorem dX5_agree_50 : decode cX5_agree 50 = .ok (.iload 5, 2) := by decide +kernel
theorem dX5_agree_52 : decode cX5_agree 52 = .ok (.invokevirtual 191, 3) := by decide +kernel
theorem dX5_agree_55 : decode cX5_agree 55 = .ok (.ifCond .eq 6, 3) := by decide +kernel
theorem dX5_agree_58 : decode cX5_agree 58 = .ok (.iinc 4 1, 3) := by decide +kernel
theorem dX5_agree_61 : decode cX5_agree 61 = .ok (.iinc 5 1, 3) := by decide +kernel
theorem dX5_agree_64 : decode cX5_agree 64 = .ok (.goto (-23), 3) := by decide +kernel
theorem dX5_agree_67 : decode cX5_agree 67 = .ok (.iload 4, 2) := by decide +kernel
theorem dX5_agree_69 : decode cX5_agree 69 = .ok (.ireturn, 1) := by decide +kernel
theorem dX5_row_0 : decode cX5_row 0 = .ok (.aload_n 0, 1) := by decide +kernel
theorem dX5_row_1 : decode cX5_row 1 = .ok (.getfield 12, 3) := by decide +kernel
theorem dX5_row_4 : decode cX5_row 4 = .ok (.iload_n 1, 1) := by decide +kernel
theorem dX5_row_5 : decode cX5_row 5 = .ok (.iload_n 2, 1) := by decide +kernel
theorem dX5_row_6 : decode cX5_row 6 = .ok (.invokevirtual 188, 3) := by decide +kernel
theorem dX5_row_9 : decode cX5_row 9 = .ok (.ifCond .eq 14, 3) := by decide +kernel
theorem dX5_row_12 : decode cX5_row 12 = .ok (.iload_n 3, 1) := by decide +kernel
theorem dX5_row_13 : decode cX5_row 13 = .ok (.iconst 1, 1) := by decide +kernel
theorem dX5_row_14 : decode cX5_row 14 = .ok (.sipush 400, 3) := by decide +kernel
theorem dX5_row_17 : decode cX5_row 17 = .ok (.invokestatic 92, 3) := by decide +kernel
theorem dX5_row_20 : decode cX5_row 20 = .ok (.ifCond .ne 10, 3) := by decide +kernel
theorem dX5_row_23 : decode cX5_row 23 = .ok (.aload_n 0, 1) := by decide +kernel
theorem dX5_row_24 : decode cX5_row 24 = .ok (.ldc 58, 2) := by decide +kernel
theorem dX5_row_26 : decode cX5_row 26 = .ok (.invokevirtual 59, 3) := by decide +kernel
theorem dX5_row_29 : decode cX5_row 29 = .ok (.ireturn, 1) := by decide +kernel
theorem dX5_row_30 : decode cX5_row 30 = .ok (.aload_n 0, 1) := by decide +kernel
theorem dX5_row_31 : decode cX5_row 31 = .ok (.iload_n 3, 1) := by decide +kernel
theorem dX5_row_32 : decode cX5_row 32 = .ok (.invokevirtual 176, 3) := by decide +kernel
theorem dX5_row_35 : decode cX5_row 35 = .ok (.iconst 0, 1) := by decide +kernel
theorem dX5_row_36 : decode cX5_row 36 = .ok (.istore 4, 2) := by decide +kernel
theorem dX5_row_38 : decode cX5_row 38 = .ok (.iconst 0, 1) := by decide +kernel
theorem dX5_row_39 : decode cX5_row 39 = .ok (.istore 5, 2) := by decide +kernel
theorem dX5_row_41 : decode cX5_row 41 = .ok (.iconst 0, 1) := by decide +kernel
theorem dX5_row_42 : decode cX5_row 42 = .ok (.istore 6, 2) := by decide +kernel
theorem dX5_row_44 : decode cX5_row 44 = .ok (.iload 6, 2) := by decide +kernel
theorem dX5_row_46 : decode cX5_row 46 = .ok (.iload_n 3, 1) := by decide +kernel
theorem dX5_row_47 : decode cX5_row 47 = .ok (.if_icmp .ge 39, 3) := by decide +kernel
theorem dX5_row_50 : decode cX5_row 50 = .ok (.aload_n 0, 1) := by decide +kernel
theorem dX5_row_51 : decode cX5_row 51 = .ok (.iload_n 1, 1) := by decide +kernel
theorem dX5_row_52 : decode cX5_row 52 = .ok (.iload_n 2, 1) := by decide +kernel
theorem dX5_row_53 : decode cX5_row 53 = .ok (.iload 6, 2) := by decide +kernel
theorem dX5_row_55 : decode cX5_row 55 = .ok (.invokevirtual 191, 3) := by decide +kernel
theorem dX5_row_58 : decode cX5_row 58 = .ok (.ifCond .eq 10, 3) := by decide +kernel
theorem dX5_row_61 : decode cX5_row 61 = .ok (.iload 5, 2) := by decide +kernel
theorem dX5_row_63 : decode cX5_row 63 = .ok (.iconst 1, 1) := by decide +kernel
theorem dX5_row_64 : decode cX5_row 64 = .ok (.iadd, 1) := by decide +kernel
theorem dX5_row_65 : decode cX5_row 65 = .ok (.goto 4, 3) := by decide +kernel
theorem dX5_row_68 : decode cX5_row 68 = .ok (.iconst 0, 1) := by decide +kernel
theorem dX5_row_69 : decode cX5_row 69 = .ok (.istore 5, 2) := by decide +kernel
theorem dX5_row_71 : decode cX5_row 71 = .ok (.iload 4, 2) := by decide +kernel
theorem dX5_row_73 : decode cX5_row 73 = .ok (.iload 5, 2) := by decide +kernel
theorem dX5_row_75 : decode cX5_row 75 = .ok (.invokestatic 194, 3) := by decide +kernel
theorem dX5_row_78 : decode cX5_row 78 = .ok (.istore 4, 2) := by decide +kernel
theorem dX5_row_80 : decode cX5_row 80 = .ok (.iinc 6 1, 3) := by decide +kernel
theorem dX5_row_83 : decode cX5_row 83 = .ok (.goto (-39), 3) := by decide +kernel
theorem dX5_row_86 : decode cX5_row 86 = .ok (.iload 4, 2) := by decide +kernel
theorem dX5_row_88 : decode cX5_row 88 = .ok (.ireturn, 1) := by decide +kernel
theorem dX5_meet_0 : decode cX5_meet 0 = .ok (.iload_n 1, 1) := by decide +kernel
theorem dX5_meet_1 : decode cX5_meet 1 = .ok (.iconst 1, 1) := by decide +kernel
theorem dX5_meet_2 : decode cX5_meet 2 = .ok (.iconst 1, 1) := by decide +kernel
theorem dX5_meet_3 : decode cX5_meet 3 = .ok (.aload_n 0, 1) := by decide +kernel
theorem dX5_meet_4 : decode cX5_meet 4 = .ok (.getfield 12, 3) := by decide +kernel
theorem dX5_meet_7 : decode cX5_meet 7 = .ok (.getfield 63, 3) := by decide +kernel
theorem dX5_meet_10 : decode cX5_meet 10 = .ok (.ishl, 1) := by decide +kernel
theorem dX5_meet_11 : decode cX5_meet 11 = .ok (.iconst 1, 1) := by decide +kernel
theorem dX5_meet_12 : decode cX5_meet 12 = .ok (.isub, 1) := by decide +kernel
theorem dX5_meet_13 : decode cX5_meet 13 = .ok (.invokestatic 92, 3) := by decide +kernel
theorem dX5_meet_16 : decode cX5_meet 16 = .ok (.ifCond .ne 10, 3) := by decide +kernel
theorem dX5_meet_19 : decode cX5_meet 19 = .ok (.aload_n 0, 1) := by decide +kernel
theorem dX5_meet_20 : decode cX5_meet 20 = .ok (.ldc 58, 2) := by decide +kernel
theorem dX5_meet_22 : decode cX5_meet 22 = .ok (.invokevirtual 59, 3) := by decide +kernel
theorem dX5_meet_25 : decode cX5_meet 25 = .ok (.ireturn, 1) := by decide +kernel
theorem dX5_meet_26 : decode cX5_meet 26 = .ok (.iconst 0, 1) := by decide +kernel
theorem dX5_meet_27 : decode cX5_meet 27 = .ok (.istore_n 2, 1) := by decide +kernel
theorem dX5_meet_28 : decode cX5_meet 28 = .ok (.iload_n 2, 1) := by decide +kernel
theorem dX5_meet_29 : decode cX5_meet 29 = .ok (.sipush 2000, 3) := by decide +kernel
theorem dX5_meet_32 : decode cX5_meet 32 = .ok (.if_icmp .gt 39, 3) := by decide +kernel
theorem dX5_meet_35 : decode cX5_meet 35 = .ok (.aload_n 0, 1) := by decide +kernel
theorem dX5_meet_36 : decode cX5_meet 36 = .ok (.getfield 12, 3) := by decide +kernel
theorem dX5_meet_39 : decode cX5_meet 39 = .ok (.aload_n 0, 1) := by decide +kernel
theorem dX5_meet_40 : decode cX5_meet 40 = .ok (.getfield 12, 3) := by decide +kernel
theorem dX5_meet_43 : decode cX5_meet 43 = .ok (.getfield 146, 3) := by decide +kernel
theorem dX5_meet_46 : decode cX5_meet 46 = .ok (.iload_n 2, 1) := by decide +kernel
theorem dX5_meet_47 : decode cX5_meet 47 = .ok (.iadd, 1) := by decide +kernel
theorem dX5_meet_48 : decode cX5_meet 48 = .ok (.invokevirtual 199, 3) := by decide +kernel
theorem dX5_meet_51 : decode cX5_meet 51 = .ok (.iload_n 1, 1) := by decide +kernel
theorem dX5_meet_52 : decode cX5_meet 52 = .ok (.if_icmp .ne 13, 3) := by decide +kernel
theorem dX5_meet_55 : decode cX5_meet 55 = .ok (.aload_n 0, 1) := by decide +kernel
theorem dX5_meet_56 : decode cX5_meet 56 = .ok (.getfield 12, 3) := by decide +kernel
theorem dX5_meet_59 : decode cX5_meet 59 = .ok (.getfield 146, 3) := by decide +kernel
theorem dX5_meet_62 : decode cX5_meet 62 = .ok (.iload_n 2, 1) := by decide +kernel
theorem dX5_meet_63 : decode cX5_meet 63 = .ok (.iadd, 1) := by decide +kernel
theorem dX5_meet_64 : decode cX5_meet 64 = .ok (.ireturn, 1) := by decide +kernel
theorem dX5_meet_65 : decode cX5_meet 65 = .ok (.iinc 2 1, 3) := by decide +kernel
theorem dX5_meet_68 : decode cX5_meet 68 = .ok (.goto (-40), 3) := by decide +kernel
theorem dX5_meet_71 : decode cX5_meet 71 = .ok (.aload_n 0, 1) := by decide +kernel
theorem dX5_meet_72 : decode cX5_meet 72 = .ok (.ldc 187, 2) := by decide +kernel
theorem dX5_meet_74 : decode cX5_meet 74 = .ok (.invokevirtual 59, 3) := by decide +kernel
theorem dX5_meet_77 : decode cX5_meet 77 = .ok (.ireturn, 1) := by decide +kernel
theorem dX5_both_0 : decode cX5_both 0 = .ok (.aload_n 0, 1) := by decide +kernel
theorem dX5_both_1 : decode cX5_both 1 = .ok (.getfield 12, 3) := by decide +kernel
theorem dX5_both_4 : decode cX5_both 4 = .ok (.iload_n 1, 1) := by decide +kernel
theorem dX5_both_5 : decode cX5_both 5 = .ok (.invokevirtual 72, 3) := by decide +kernel
theorem dX5_both_8 : decode cX5_both 8 = .ok (.astore 5, 2) := by decide +kernel
theorem dX5_both_10 : decode cX5_both 10 = .ok (.aload_n 0, 1) := by decide +kernel
theorem dX5_both_11 : decode cX5_both 11 = .ok (.getfield 12, 3) := by decide +kernel
theorem dX5_both_14 : decode cX5_both 14 = .ok (.iload_n 3, 1) := by decide +kernel
theorem dX5_both_15 : decode cX5_both 15 = .ok (.invokevirtual 72, 3) := by decide +kernel
theorem dX5_both_18 : decode cX5_both 18 = .ok (.astore 6, 2) := by decide +kernel
theorem dX5_both_20 : decode cX5_both 20 = .ok (.aload 5, 2) := by decide +kernel
theorem dX5_both_22 : decode cX5_both 22 = .ok (.ifnull 13, 3) := by decide +kernel
theorem dX5_both_25 : decode cX5_both 25 = .ok (.aload 6, 2) := by decide +kernel
theorem dX5_both_27 : decode cX5_both 27 = .ok (.ifnull 8, 3) := by decide +kernel
theorem dX5_both_30 : decode cX5_both 30 = .ok (.iload_n 1, 1) := by decide +kernel
theorem dX5_both_31 : decode cX5_both 31 = .ok (.iload_n 3, 1) := by decide +kernel
theorem dX5_both_32 : decode cX5_both 32 = .ok (.if_icmp .ne 10, 3) := by decide +kernel
theorem dX5_both_35 : decode cX5_both 35 = .ok (.aload_n 0, 1) := by decide +kernel
theorem dX5_both_36 : decode cX5_both 36 = .ok (.ldc 58, 2) := by decide +kernel
theorem dX5_both_38 : decode cX5_both 38 = .ok (.invokevirtual 59, 3) := by decide +kernel
theorem dX5_both_41 : decode cX5_both 41 = .ok (.ireturn, 1) := by decide +kernel
theorem dX5_both_42 : decode cX5_both 42 = .ok (.iconst 2, 1) := by decide +kernel
theorem dX5_both_43 : decode cX5_both 43 = .ok (.iload_n 2, 1) := by decide +kernel
theorem dX5_both_44 : decode cX5_both 44 = .ok (.invokestatic 54, 3) := by decide +kernel
theorem dX5_both_47 : decode cX5_both 47 = .ok (.ifCond .eq 12, 3) := by decide +kernel
theorem dX5_both_50 : decode cX5_both 50 = .ok (.iconst 2, 1) := by decide +kernel
theorem dX5_both_51 : decode cX5_both 51 = .ok (.iload 4, 2) := by decide +kernel
theorem dX5_both_53 : decode cX5_both 53 = .ok (.invokestatic 54, 3) := by decide +kernel
theorem dX5_both_56 : decode cX5_both 56 = .ok (.ifCond .ne 10, 3) := by decide +kernel
theorem dX5_both_59 : decode cX5_both 59 = .ok (.aload_n 0, 1) := by decide +kernel
theorem dX5_both_60 : decode cX5_both 60 = .ok (.ldc 58, 2) := by decide +kernel
theorem dX5_both_62 : decode cX5_both 62 = .ok (.invokevirtual 59, 3) := by decide +kernel
theorem dX5_both_65 : decode cX5_both 65 = .ok (.ireturn, 1) := by decide +kernel
theorem dX5_both_66 : decode cX5_both 66 = .ok (.iconst 0, 1) := by decide +kernel
theorem dX5_both_67 : decode cX5_both 67 = .ok (.istore 7, 2) := by decide +kernel
theorem dX5_both_69 : decode cX5_both 69 = .ok (.iload 7, 2) := by decide +kernel
theorem dX5_both_71 : decode cX5_both 71 = .ok (.sipush 2000, 3) := by decide +kernel
theorem dX5_both_74 : decode cX5_both 74 = .ok (.if_icmp .gt 47, 3) := by decide +kernel
theorem dX5_both_77 : decode cX5_both 77 = .ok (.aload_n 0, 1) := by decide +kernel
theorem dX5_both_78 : decode cX5_both 78 = .ok (.getfield 12, 3) := by decide +kernel
theorem dX5_both_81 : decode cX5_both 81 = .ok (.getfield 146, 3) := by decide +kernel
theorem dX5_both_84 : decode cX5_both 84 = .ok (.iload 7, 2) := by decide +kernel
theorem dX5_both_86 : decode cX5_both 86 = .ok (.iadd, 1) := by decide +kernel
theorem dX5_both_87 : decode cX5_both 87 = .ok (.istore 8, 2) := by decide +kernel
theorem dX5_both_89 : decode cX5_both 89 = .ok (.aload 5, 2) := by decide +kernel
theorem dX5_both_91 : decode cX5_both 91 = .ok (.iload 8, 2) := by decide +kernel
theorem dX5_both_93 : decode cX5_both 93 = .ok (.invokevirtual 96, 3) := by decide +kernel
theorem dX5_both_96 : decode cX5_both 96 = .ok (.iload_n 2, 1) := by decide +kernel
theorem dX5_both_97 : decode cX5_both 97 = .ok (.if_icmp .ne 18, 3) := by decide +kernel
theorem dX5_both_100 : decode cX5_both 100 = .ok (.aload 6, 2) := by decide +kernel
theorem dX5_both_102 : decode cX5_both 102 = .ok (.iload 8, 2) := by decide +kernel
theorem dX5_both_104 : decode cX5_both 104 = .ok (.invokevirtual 96, 3) := by decide +kernel
theorem dX5_both_107 : decode cX5_both 107 = .ok (.iload 4, 2) := by decide +kernel
theorem dX5_both_109 : decode cX5_both 109 = .ok (.if_icmp .ne 6, 3) := by decide +kernel
theorem dX5_both_112 : decode cX5_both 112 = .ok (.iload 8, 2) := by decide +kernel
theorem dX5_both_114 : decode cX5_both 114 = .ok (.ireturn, 1) := by decide +kernel
theorem dX5_both_115 : decode cX5_both 115 = .ok (.iinc 7 1, 3) := by decide +kernel
theorem dX5_both_118 : decode cX5_both 118 = .ok (.goto (-49), 3) := by decide +kernel
theorem dX5_both_121 : decode cX5_both 121 = .ok (.aload_n 0, 1) := by decide +kernel
theorem dX5_both_122 : decode cX5_both 122 = .ok (.ldc 187, 2) := by decide +kernel
theorem dX5_both_124 : decode cX5_both 124 = .ok (.invokevirtual 59, 3) := by decide +kernel
theorem dX5_both_127 : decode cX5_both 127 = .ok (.ireturn, 1) := by decide +kernel
theorem dX5_trust_0 : decode cX5_trust 0 = .ok (.aload_n 0, 1) := by decide +kernel
theorem dX5_trust_1 : decode cX5_trust 1 = .ok (.getfield 12, 3) := by decide +kernel
theorem dX5_trust_4 : decode cX5_trust 4 = .ok (.iload_n 1, 1) := by decide +kernel
theorem dX5_trust_5 : decode cX5_trust 5 = .ok (.invokevirtual 124, 3) := by decide +kernel
theorem dX5_trust_8 : decode cX5_trust 8 = .ok (.astore_n 2, 1) := by decide +kernel
theorem dX5_trust_9 : decode cX5_trust 9 = .ok (.aload_n 2, 1) := by decide +kernel
theorem dX5_trust_10 : decode cX5_trust 10 = .ok (.ifnonnull 10, 3) := by decide +kernel
theorem dX5_trust_13 : decode cX5_trust 13 = .ok (.aload_n 0, 1) := by decide +kernel
theorem dX5_trust_14 : decode cX5_trust 14 = .ok (.ldc 58, 2) := by decide +kernel
theorem dX5_trust_16 : decode cX5_trust 16 = .ok (.invokevirtual 59, 3) := by decide +kernel
theorem dX5_trust_19 : decode cX5_trust 19 = .ok (.ireturn, 1) := by decide +kernel
theorem dX5_trust_20 : decode cX5_trust 20 = .ok (.aload_n 0, 1) := by decide +kernel
theorem dX5_trust_21 : decode cX5_trust 21 = .ok (.sipush 400, 3) := by decide +kernel
theorem dX5_trust_24 : decode cX5_trust 24 = .ok (.invokevirtual 176, 3) := by decide +kernel
theorem dX5_trust_27 : decode cX5_trust 27 = .ok (.iconst (-1), 1) := by decide +kernel
theorem dX5_trust_28 : decode cX5_trust 28 = .ok (.istore_n 3, 1) := by decide +kernel
theorem dX5_trust_29 : decode cX5_trust 29 = .ok (.sipush 401, 3) := by decide +kernel
theorem dX5_trust_32 : decode cX5_trust 32 = .ok (.istore 4, 2) := by decide +kernel
theorem dX5_trust_34 : decode cX5_trust 34 = .ok (.iconst 0, 1) := by decide +kernel
theorem dX5_trust_35 : decode cX5_trust 35 = .ok (.istore 5, 2) := by decide +kernel
theorem dX5_trust_37 : decode cX5_trust 37 = .ok (.iload 5, 2) := by decide +kernel
theorem dX5_trust_39 : decode cX5_trust 39 = .ok (.aload_n 0, 1) := by decide +kernel
theorem dX5_trust_40 : decode cX5_trust 40 = .ok (.getfield 12, 3) := by decide +kernel
theorem dX5_trust_43 : decode cX5_trust 43 = .ok (.getfield 63, 3) := by decide +kernel
theorem dX5_trust_46 : decode cX5_trust 46 = .ok (.if_icmp .ge 32, 3) := by decide +kernel
theorem dX5_trust_49 : decode cX5_trust 49 = .ok (.aload_n 0, 1) := by decide +kernel
theorem dX5_trust_50 : decode cX5_trust 50 = .ok (.aload_n 2, 1) := by decide +kernel
theorem dX5_trust_51 : decode cX5_trust 51 = .ok (.iload 5, 2) := by decide +kernel
theorem dX5_trust_53 : decode cX5_trust 53 = .ok (.invokevirtual 183, 3) := by decide +kernel
theorem dX5_trust_56 : decode cX5_trust 56 = .ok (.istore 6, 2) := by decide +kernel
theorem dX5_trust_58 : decode cX5_trust 58 = .ok (.iload 6, 2) := by decide +kernel
theorem dX5_trust_60 : decode cX5_trust 60 = .ok (.iload 4, 2) := by decide +kernel
theorem dX5_trust_62 : decode cX5_trust 62 = .ok (.if_icmp .ge 10, 3) := by decide +kernel
theorem dX5_trust_65 : decode cX5_trust 65 = .ok (.iload 6, 2) := by decide +kernel
theorem dX5_trust_67 : decode cX5_trust 67 = .ok (.istore 4, 2) := by decide +kernel
theorem dX5_trust_69 : decode cX5_trust 69 = .ok (.iload 5, 2) := by decide +kernel
theorem dX5_trust_71 : decode cX5_trust 71 = .ok (.istore_n 3, 1) := by decide +kernel
theorem dX5_trust_72 : decode cX5_trust 72 = .ok (.iinc 5 1, 3) := by decide +kernel
theorem dX5_trust_75 : decode cX5_trust 75 = .ok (.goto (-38), 3) := by decide +kernel
theorem dX5_trust_78 : decode cX5_trust 78 = .ok (.aload_n 0, 1) := by decide +kernel
theorem dX5_trust_79 : decode cX5_trust 79 = .ok (.aload_n 2, 1) := by decide +kernel
theorem dX5_trust_80 : decode cX5_trust 80 = .ok (.iconst (-1), 1) := by decide +kernel
theorem dX5_trust_81 : decode cX5_trust 81 = .ok (.invokevirtual 183, 3) := by decide +kernel
theorem dX5_trust_84 : decode cX5_trust 84 = .ok (.istore 5, 2) := by decide +kernel
theorem dX5_trust_86 : decode cX5_trust 86 = .ok (.iload 5, 2) := by decide +kernel
theorem dX5_trust_88 : decode cX5_trust 88 = .ok (.iload 4, 2) := by decide +kernel
theorem dX5_trust_90 : decode cX5_trust 90 = .ok (.if_icmp .ge 5, 3) := by decide +kernel
theorem dX5_trust_93 : decode cX5_trust 93 = .ok (.iconst (-1), 1) := by decide +kernel
theorem dX5_trust_94 : decode cX5_trust 94 = .ok (.ireturn, 1) := by decide +kernel
theorem dX5_trust_95 : decode cX5_trust 95 = .ok (.iload 4, 2) := by decide +kernel
theorem dX5_trust_97 : decode cX5_trust 97 = .ok (.sipush 401, 3) := by decide +kernel
theorem dX5_trust_100 : decode cX5_trust 100 = .ok (.if_icmp .ne 12, 3) := by decide +kernel
theorem dX5_trust_103 : decode cX5_trust 103 = .ok (.aload_n 0, 1) := by decide +kernel
theorem dX5_trust_104 : decode cX5_trust 104 = .ok (.ldc 187, 2) := by decide +kernel
theorem dX5_trust_106 : decode cX5_trust 106 = .ok (.invokevirtual 59, 3) := by decide +kernel
theorem dX5_trust_109 : decode cX5_trust 109 = .ok (.goto 4, 3) := by decide +kernel
theorem dX5_trust_112 : decode cX5_trust 112 = .ok (.iload_n 3, 1) := by decide +kernel
theorem dX5_trust_113 : decode cX5_trust 113 = .ok (.ireturn, 1) := by decide +kernel
theorem dX5_truth_0 : decode cX5_truth 0 = .ok (.iload_n 1, 1) := by decide +kernel
theorem dX5_truth_1 : decode cX5_truth 1 = .ok (.iconst 1, 1) := by decide +kernel
theorem dX5_truth_2 : decode cX5_truth 2 = .ok (.bipush 100, 2) := by decide +kernel
theorem dX5_truth_4 : decode cX5_truth 4 = .ok (.invokestatic 92, 3) := by decide +kernel
theorem dX5_truth_7 : decode cX5_truth 7 = .ok (.ifCond .ne 10, 3) := by decide +kernel
theorem dX5_truth_10 : decode cX5_truth 10 = .ok (.aload_n 0, 1) := by decide +kernel
theorem dX5_truth_11 : decode cX5_truth 11 = .ok (.ldc 58, 2) := by decide +kernel
theorem dX5_truth_13 : decode cX5_truth 13 = .ok (.invokevirtual 59, 3) := by decide +kernel
theorem dX5_truth_16 : decode cX5_truth 16 = .ok (.ireturn, 1) := by decide +kernel
theorem dX5_truth_17 : decode cX5_truth 17 = .ok (.aload_n 0, 1) := by decide +kernel
theorem dX5_truth_18 : decode cX5_truth 18 = .ok (.getfield 12, 3) := by decide +kernel
theorem dX5_truth_21 : decode cX5_truth 21 = .ok (.getfield 63, 3) := by decide +kernel
theorem dX5_truth_24 : decode cX5_truth 24 = .ok (.ifCond .ne 10, 3) := by decide +kernel
theorem dX5_truth_27 : decode cX5_truth 27 = .ok (.aload_n 0, 1) := by decide +kernel
theorem dX5_truth_28 : decode cX5_truth 28 = .ok (.ldc 187, 2) := by decide +kernel
theorem dX5_truth_30 : decode cX5_truth 30 = .ok (.invokevirtual 59, 3) := by decide +kernel
theorem dX5_truth_33 : decode cX5_truth 33 = .ok (.ireturn, 1) := by decide +kernel
theorem dX5_truth_34 : decode cX5_truth 34 = .ok (.aload_n 0, 1) := by decide +kernel
theorem dX5_truth_35 : decode cX5_truth 35 = .ok (.iload_n 1, 1) := by decide +kernel
theorem dX5_truth_36 : decode cX5_truth 36 = .ok (.invokevirtual 176, 3) := by decide +kernel
theorem dX5_truth_39 : decode cX5_truth 39 = .ok (.iconst 0, 1) := by decide +kernel
theorem dX5_truth_40 : decode cX5_truth 40 = .ok (.istore_n 2, 1) := by decide +kernel
theorem dX5_truth_41 : decode cX5_truth 41 = .ok (.aload_n 0, 1) := by decide +kernel
theorem dX5_truth_42 : decode cX5_truth 42 = .ok (.iload_n 1, 1) := by decide +kernel
theorem dX5_truth_43 : decode cX5_truth 43 = .ok (.iconst 0, 1) := by decide +kernel
theorem dX5_truth_44 : decode cX5_truth 44 = .ok (.invokevirtual 202, 3) := by decide +kernel
theorem dX5_truth_47 : decode cX5_truth 47 = .ok (.istore_n 3, 1) := by decide +kernel
theorem dX5_truth_48 : decode cX5_truth 48 = .ok (.iconst 1, 1) := by decide +kernel
theorem dX5_truth_49 : decode cX5_truth 49 = .ok (.istore 4, 2) := by decide +kernel
theorem dX5_truth_51 : decode cX5_truth 51 = .ok (.iload 4, 2) := by decide +kernel
theorem dX5_truth_53 : decode cX5_truth 53 = .ok (.aload_n 0, 1) := by decide +kernel
theorem dX5_truth_54 : decode cX5_truth 54 = .ok (.getfield 12, 3) := by decide +kernel
theorem dX5_truth_57 : decode cX5_truth 57 = .ok (.getfield 63, 3) := by decide +kernel
theorem dX5_truth_60 : decode cX5_truth 60 = .ok (.if_icmp .ge 30, 3) := by decide +kernel
theorem dX5_truth_63 : decode cX5_truth 63 = .ok (.aload_n 0, 1) := by decide +kernel
theorem dX5_truth_64 : decode cX5_truth 64 = .ok (.iload_n 1, 1) := by decide +kernel
theorem dX5_truth_65 : decode cX5_truth 65 = .ok (.iload 4, 2) := by decide +kernel
theorem dX5_truth_67 : decode cX5_truth 67 = .ok (.invokevirtual 202, 3) := by decide +kernel
theorem dX5_truth_70 : decode cX5_truth 70 = .ok (.istore 5, 2) := by decide +kernel
theorem dX5_truth_72 : decode cX5_truth 72 = .ok (.iload 5, 2) := by decide +kernel
theorem dX5_truth_74 : decode cX5_truth 74 = .ok (.iload_n 3, 1) := by decide +kernel
theorem dX5_truth_75 : decode cX5_truth 75 = .ok (.if_icmp .ge 9, 3) := by decide +kernel
theorem dX5_truth_78 : decode cX5_truth 78 = .ok (.iload 5, 2) := by decide +kernel
theorem dX5_truth_80 : decode cX5_truth 80 = .ok (.istore_n 3, 1) := by decide +kernel
theorem dX5_truth_81 : decode cX5_truth 81 = .ok (.iload 4, 2) := by decide +kernel
theorem dX5_truth_83 : decode cX5_truth 83 = .ok (.istore_n 2, 1) := by decide +kernel
theorem dX5_truth_84 : decode cX5_truth 84 = .ok (.iinc 4 1, 3) := by decide +kernel
theorem dX5_truth_87 : decode cX5_truth 87 = .ok (.goto (-36), 3) := by decide +kernel
theorem dX5_truth_90 : decode cX5_truth 90 = .ok (.iload_n 2, 1) := by decide +kernel
theorem dX5_truth_91 : decode cX5_truth 91 = .ok (.ireturn, 1) := by decide +kernel
theorem dX5_cure_0 : decode cX5_cure 0 = .ok (.aload_n 0, 1) := by decide +kernel
theorem dX5_cure_1 : decode cX5_cure 1 = .ok (.getfield 12, 3) := by decide +kernel
theorem dX5_cure_4 : decode cX5_cure 4 = .ok (.iload_n 1, 1) := by decide +kernel
theorem dX5_cure_5 : decode cX5_cure 5 = .ok (.invokevirtual 124, 3) := by decide +kernel
theorem dX5_cure_8 : decode cX5_cure 8 = .ok (.astore_n 2, 1) := by decide +kernel
theorem dX5_cure_9 : decode cX5_cure 9 = .ok (.aload_n 2, 1) := by decide +kernel
theorem dX5_cure_10 : decode cX5_cure 10 = .ok (.ifnonnull 10, 3) := by decide +kernel
theorem dX5_cure_13 : decode cX5_cure 13 = .ok (.aload_n 0, 1) := by decide +kernel
theorem dX5_cure_14 : decode cX5_cure 14 = .ok (.ldc 58, 2) := by decide +kernel
theorem dX5_cure_16 : decode cX5_cure 16 = .ok (.invokevirtual 59, 3) := by decide +kernel
theorem dX5_cure_19 : decode cX5_cure 19 = .ok (.ireturn, 1) := by decide +kernel
theorem dX5_cure_20 : decode cX5_cure 20 = .ok (.aload_n 2, 1) := by decide +kernel
theorem dX5_cure_21 : decode cX5_cure 21 = .ok (.getfield 128, 3) := by decide +kernel
theorem dX5_cure_24 : decode cX5_cure 24 = .ok (.ifCond .ne 10, 3) := by decide +kernel
theorem dX5_cure_27 : decode cX5_cure 27 = .ok (.aload_n 0, 1) := by decide +kernel
theorem dX5_cure_28 : decode cX5_cure 28 = .ok (.ldc 141, 2) := by decide +kernel
theorem dX5_cure_30 : decode cX5_cure 30 = .ok (.invokevirtual 59, 3) := by decide +kernel
theorem dX5_cure_33 : decode cX5_cure 33 = .ok (.ireturn, 1) := by decide +kernel
theorem dX5_cure_34 : decode cX5_cure 34 = .ok (.aload_n 0, 1) := by decide +kernel
theorem dX5_cure_35 : decode cX5_cure 35 = .ok (.getfield 42, 3) := by decide +kernel
theorem dX5_cure_38 : decode cX5_cure 38 = .ok (.aload_n 2, 1) := by decide +kernel
theorem dX5_cure_39 : decode cX5_cure 39 = .ok (.invokevirtual 205, 3) := by decide +kernel
theorem dX5_cure_42 : decode cX5_cure 42 = .ok (.iconst 0, 1) := by decide +kernel
theorem dX5_cure_43 : decode cX5_cure 43 = .ok (.istore_n 3, 1) := by decide +kernel
theorem dX5_cure_44 : decode cX5_cure 44 = .ok (.iload_n 3, 1) := by decide +kernel
theorem dX5_cure_45 : decode cX5_cure 45 = .ok (.sipush 2000, 3) := by decide +kernel
theorem dX5_cure_48 : decode cX5_cure 48 = .ok (.if_icmp .gt 67, 3) := by decide +kernel
theorem dX5_cure_51 : decode cX5_cure 51 = .ok (.aload_n 0, 1) := by decide +kernel
theorem dX5_cure_52 : decode cX5_cure 52 = .ok (.getfield 12, 3) := by decide +kernel
theorem dX5_cure_55 : decode cX5_cure 55 = .ok (.getfield 146, 3) := by decide +kernel
theorem dX5_cure_58 : decode cX5_cure 58 = .ok (.iload_n 3, 1) := by decide +kernel
theorem dX5_cure_59 : decode cX5_cure 59 = .ok (.iadd, 1) := by decide +kernel
theorem dX5_cure_60 : decode cX5_cure 60 = .ok (.istore 4, 2) := by decide +kernel
theorem dX5_cure_62 : decode cX5_cure 62 = .ok (.aload_n 0, 1) := by decide +kernel
theorem dX5_cure_63 : decode cX5_cure 63 = .ok (.getfield 12, 3) := by decide +kernel
theorem dX5_cure_66 : decode cX5_cure 66 = .ok (.aload_n 0, 1) := by decide +kernel
theorem dX5_cure_67 : decode cX5_cure 67 = .ok (.getfield 12, 3) := by decide +kernel
theorem dX5_cure_70 : decode cX5_cure 70 = .ok (.getfield 111, 3) := by decide +kernel
theorem dX5_cure_73 : decode cX5_cure 73 = .ok (.iload 4, 2) := by decide +kernel
theorem dX5_cure_75 : decode cX5_cure 75 = .ok (.invokevirtual 149, 3) := by decide +kernel
theorem dX5_cure_78 : decode cX5_cure 78 = .ok (.ifCond .eq 18, 3) := by decide +kernel
theorem dX5_cure_81 : decode cX5_cure 81 = .ok (.aload_n 0, 1) := by decide +kernel
theorem dX5_cure_82 : decode cX5_cure 82 = .ok (.getfield 42, 3) := by decide +kernel
theorem dX5_cure_85 : decode cX5_cure 85 = .ok (.iconst 1, 1) := by decide +kernel
theorem dX5_cure_86 : decode cX5_cure 86 = .ok (.aload_n 0, 1) := by decide +kernel
theorem dX5_cure_87 : decode cX5_cure 87 = .ok (.getfield 12, 3) := by decide +kernel
theorem dX5_cure_90 : decode cX5_cure 90 = .ok (.getfield 108, 3) := by decide +kernel
theorem dX5_cure_93 : decode cX5_cure 93 = .ok (.invokevirtual 152, 3) := by decide +kernel
theorem dX5_cure_96 : decode cX5_cure 96 = .ok (.aload_n 0, 1) := by decide +kernel
theorem dX5_cure_97 : decode cX5_cure 97 = .ok (.getfield 42, 3) := by decide +kernel
theorem dX5_cure_100 : decode cX5_cure 100 = .ok (.getfield 128, 3) := by decide +kernel
theorem dX5_cure_103 : decode cX5_cure 103 = .ok (.ifCond .ne 6, 3) := by decide +kernel
theorem dX5_cure_106 : decode cX5_cure 106 = .ok (.iload 4, 2) := by decide +kernel
theorem dX5_cure_108 : decode cX5_cure 108 = .ok (.ireturn, 1) := by decide +kernel
theorem dX5_cure_109 : decode cX5_cure 109 = .ok (.iinc 3 1, 3) := by decide +kernel
theorem dX5_cure_112 : decode cX5_cure 112 = .ok (.goto (-68), 3) := by decide +kernel
theorem dX5_cure_115 : decode cX5_cure 115 = .ok (.aload_n 0, 1) := by decide +kernel
theorem dX5_cure_116 : decode cX5_cure 116 = .ok (.ldc 187, 2) := by decide +kernel
theorem dX5_cure_118 : decode cX5_cure 118 = .ok (.invokevirtual 59, 3) := by decide +kernel
theorem dX5_cure_121 : decode cX5_cure 121 = .ok (.ireturn, 1) := by decide +kernel
theorem dX5_kind_0 : decode cX5_kind 0 = .ok (.aload_n 0, 1) := by decide +kernel
theorem dX5_kind_1 : decode cX5_kind 1 = .ok (.iload_n 1, 1) := by decide +kernel
theorem dX5_kind_2 : decode cX5_kind 2 = .ok (.iconst 0, 1) := by decide +kernel
theorem dX5_kind_3 : decode cX5_kind 3 = .ok (.iload_n 2, 1) := by decide +kernel
theorem dX5_kind_4 : decode cX5_kind 4 = .ok (.sipush 400, 3) := by decide +kernel
theorem dX5_kind_7 : decode cX5_kind 7 = .ok (.invokevirtual 209, 3) := by decide +kernel
theorem dX5_kind_10 : decode cX5_kind 10 = .ok (.ireturn, 1) := by decide +kernel
theorem dX5_begin_0 : decode cX5_begin 0 = .ok (.aload_n 0, 1) := by decide +kernel
theorem dX5_begin_1 : decode cX5_begin 1 = .ok (.iload_n 1, 1) := by decide +kernel
theorem dX5_begin_2 : decode cX5_begin 2 = .ok (.iconst 1, 1) := by decide +kernel
theorem dX5_begin_3 : decode cX5_begin 3 = .ok (.iload_n 2, 1) := by decide +kernel
theorem dX5_begin_4 : decode cX5_begin 4 = .ok (.bipush 100, 2) := by decide +kernel
theorem dX5_begin_6 : decode cX5_begin 6 = .ok (.invokevirtual 209, 3) := by decide +kernel
theorem dX5_begin_9 : decode cX5_begin 9 = .ok (.ireturn, 1) := by decide +kernel
theorem dX5_power_0 : decode cX5_power 0 = .ok (.iload_n 1, 1) := by decide +kernel
theorem dX5_power_1 : decode cX5_power 1 = .ok (.iconst 1, 1) := by decide +kernel
theorem dX5_power_2 : decode cX5_power 2 = .ok (.bipush 100, 2) := by decide +kernel
theorem dX5_power_4 : decode cX5_power 4 = .ok (.invokestatic 92, 3) := by decide +kernel
theorem dX5_power_7 : decode cX5_power 7 = .ok (.ifCond .ne 10, 3) := by decide +kernel
theorem dX5_power_10 : decode cX5_power 10 = .ok (.aload_n 0, 1) := by decide +kernel
theorem dX5_power_11 : decode cX5_power 11 = .ok (.ldc 58, 2) := by decide +kernel
theorem dX5_power_13 : decode cX5_power 13 = .ok (.invokevirtual 59, 3) := by decide +kernel
theorem dX5_power_16 : decode cX5_power 16 = .ok (.ireturn, 1) := by decide +kernel
theorem dX5_power_17 : decode cX5_power 17 = .ok (.aload_n 0, 1) := by decide +kernel
theorem dX5_power_18 : decode cX5_power 18 = .ok (.iload_n 1, 1) := by decide +kernel
theorem dX5_power_19 : decode cX5_power 19 = .ok (.invokevirtual 176, 3) := by decide +kernel
theorem dX5_power_22 : decode cX5_power 22 = .ok (.iconst 1, 1) := by decide +kernel
theorem dX5_power_23 : decode cX5_power 23 = .ok (.istore_n 2, 1) := by decide +kernel
theorem dX5_power_24 : decode cX5_power 24 = .ok (.iconst (-1), 1) := by decide +kernel
theorem dX5_power_25 : decode cX5_power 25 = .ok (.istore_n 3, 1) := by decide +kernel
theorem dX5_power_26 : decode cX5_power 26 = .ok (.iconst 1, 1) := by decide +kernel
theorem dX5_power_27 : decode cX5_power 27 = .ok (.istore 4, 2) := by decide +kernel
theorem dX5_power_29 : decode cX5_power 29 = .ok (.iload 4, 2) := by decide +kernel
theorem dX5_power_31 : decode cX5_power 31 = .ok (.bipush 50, 2) := by decide +kernel
theorem dX5_power_33 : decode cX5_power 33 = .ok (.if_icmp .gt 30, 3) := by decide +kernel
theorem dX5_power_36 : decode cX5_power 36 = .ok (.aload_n 0, 1) := by decide +kernel
theorem dX5_power_37 : decode cX5_power 37 = .ok (.iload_n 1, 1) := by decide +kernel
theorem dX5_power_38 : decode cX5_power 38 = .ok (.iload 4, 2) := by decide +kernel
theorem dX5_power_40 : decode cX5_power 40 = .ok (.invokevirtual 213, 3) := by decide +kernel
theorem dX5_power_43 : decode cX5_power 43 = .ok (.istore 5, 2) := by decide +kernel
theorem dX5_power_45 : decode cX5_power 45 = .ok (.iload 5, 2) := by decide +kernel
theorem dX5_power_47 : decode cX5_power 47 = .ok (.iload_n 3, 1) := by decide +kernel
theorem dX5_power_48 : decode cX5_power 48 = .ok (.if_icmp .le 9, 3) := by decide +kernel
theorem dX5_power_51 : decode cX5_power 51 = .ok (.iload 5, 2) := by decide +kernel
theorem dX5_power_53 : decode cX5_power 53 = .ok (.istore_n 3, 1) := by decide +kernel
theorem dX5_power_54 : decode cX5_power 54 = .ok (.iload 4, 2) := by decide +kernel
theorem dX5_power_56 : decode cX5_power 56 = .ok (.istore_n 2, 1) := by decide +kernel
theorem dX5_power_57 : decode cX5_power 57 = .ok (.iinc 4 1, 3) := by decide +kernel
theorem dX5_power_60 : decode cX5_power 60 = .ok (.goto (-31), 3) := by decide +kernel
theorem dX5_power_63 : decode cX5_power 63 = .ok (.iload_n 2, 1) := by decide +kernel
theorem dX5_power_64 : decode cX5_power 64 = .ok (.ireturn, 1) := by decide +kernel
theorem dX5_feed_0 : decode cX5_feed 0 = .ok (.iload_n 2, 1) := by decide +kernel
theorem dX5_feed_1 : decode cX5_feed 1 = .ok (.iconst 1, 1) := by decide +kernel
theorem dX5_feed_2 : decode cX5_feed 2 = .ok (.iconst 4, 1) := by decide +kernel
theorem dX5_feed_3 : decode cX5_feed 3 = .ok (.invokestatic 92, 3) := by decide +kernel
theorem dX5_feed_6 : decode cX5_feed 6 = .ok (.ifCond .ne 10, 3) := by decide +kernel
theorem dX5_feed_9 : decode cX5_feed 9 = .ok (.aload_n 0, 1) := by decide +kernel
theorem dX5_feed_10 : decode cX5_feed 10 = .ok (.ldc 58, 2) := by decide +kernel
theorem dX5_feed_12 : decode cX5_feed 12 = .ok (.invokevirtual 59, 3) := by decide +kernel
theorem dX5_feed_15 : decode cX5_feed 15 = .ok (.ireturn, 1) := by decide +kernel
theorem dX5_feed_16 : decode cX5_feed 16 = .ok (.aload_n 0, 1) := by decide +kernel
theorem dX5_feed_17 : decode cX5_feed 17 = .ok (.getfield 22, 3) := by decide +kernel
theorem dX5_feed_20 : decode cX5_feed 20 = .ok (.getfield 216, 3) := by decide +kernel
theorem dX5_feed_23 : decode cX5_feed 23 = .ok (.bipush 120, 2) := by decide +kernel
theorem dX5_feed_25 : decode cX5_feed 25 = .ok (.iload_n 2, 1) := by decide +kernel
theorem dX5_feed_26 : decode cX5_feed 26 = .ok (.isub, 1) := by decide +kernel
theorem dX5_feed_27 : decode cX5_feed 27 = .ok (.if_icmp .le 10, 3) := by decide +kernel
theorem dX5_feed_30 : decode cX5_feed 30 = .ok (.aload_n 0, 1) := by decide +kernel
theorem dX5_feed_31 : decode cX5_feed 31 = .ok (.ldc 67, 2) := by decide +kernel
theorem dX5_feed_33 : decode cX5_feed 33 = .ok (.invokevirtual 59, 3) := by decide +kernel
theorem dX5_feed_36 : decode cX5_feed 36 = .ok (.ireturn, 1) := by decide +kernel
theorem dX5_feed_37 : decode cX5_feed 37 = .ok (.iload_n 2, 1) := by decide +kernel
theorem dX5_feed_38 : decode cX5_feed 38 = .ok (.iconst 1, 1) := by decide +kernel
theorem dX5_feed_39 : decode cX5_feed 39 = .ok (.isub, 1) := by decide +kernel
theorem dX5_feed_40 : decode cX5_feed 40 = .ok (.istore_n 3, 1) := by decide +kernel
theorem dX5_feed_41 : decode cX5_feed 41 = .ok (.iload_n 3, 1) := by decide +kernel
theorem dX5_feed_42 : decode cX5_feed 42 = .ok (.ifCond .lt 23, 3) := by decide +kernel
theorem dX5_feed_45 : decode cX5_feed 45 = .ok (.aload_n 0, 1) := by decide +kernel
theorem dX5_feed_46 : decode cX5_feed 46 = .ok (.getfield 22, 3) := by decide +kernel
theorem dX5_feed_49 : decode cX5_feed 49 = .ok (.iload_n 1, 1) := by decide +kernel
theorem dX5_feed_50 : decode cX5_feed 50 = .ok (.bipush 8, 2) := by decide +kernel
theorem dX5_feed_52 : decode cX5_feed 52 = .ok (.iload_n 3, 1) := by decide +kernel
theorem dX5_feed_53 : decode cX5_feed 53 = .ok (.imul, 1) := by decide +kernel
theorem dX5_feed_54 : decode cX5_feed 54 = .ok (.ishr, 1) := by decide +kernel
theorem dX5_feed_55 : decode cX5_feed 55 = .ok (.i2b, 1) := by decide +kernel
theorem dX5_feed_56 : decode cX5_feed 56 = .ok (.invokevirtual 219, 3) := by decide +kernel
theorem dX5_feed_59 : decode cX5_feed 59 = .ok (.iinc 3 (-1), 3) := by decide +kernel
theorem dX5_feed_62 : decode cX5_feed 62 = .ok (.goto (-21), 3) := by decide +kernel
theorem dX5_feed_65 : decode cX5_feed 65 = .ok (.aload_n 0, 1) := by decide +kernel
theorem dX5_feed_66 : decode cX5_feed 66 = .ok (.getfield 22, 3) := by decide +kernel
theorem dX5_feed_69 : decode cX5_feed 69 = .ok (.getfield 216, 3) := by decide +kernel
theorem dX5_feed_72 : decode cX5_feed 72 = .ok (.ireturn, 1) := by decide +kernel
theorem dX5_wipe_0 : decode cX5_wipe 0 = .ok (.aload_n 0, 1) := by decide +kernel
theorem dX5_wipe_1 : decode cX5_wipe 1 = .ok (.getfield 22, 3) := by decide +kernel
theorem dX5_wipe_4 : decode cX5_wipe 4 = .ok (.getfield 216, 3) := by decide +kernel
theorem dX5_wipe_7 : decode cX5_wipe 7 = .ok (.istore_n 1, 1) := by decide +kernel
theorem dX5_wipe_8 : decode cX5_wipe 8 = .ok (.aload_n 0, 1) := by decide +kernel
theorem dX5_wipe_9 : decode cX5_wipe 9 = .ok (.getfield 22, 3) := by decide +kernel
theorem dX5_wipe_12 : decode cX5_wipe 12 = .ok (.iconst 0, 1) := by decide +kernel
theorem dX5_wipe_13 : decode cX5_wipe 13 = .ok (.putfield 216, 3) := by decide +kernel
theorem dX5_wipe_16 : decode cX5_wipe 16 = .ok (.iload_n 1, 1) := by decide +kernel
theorem dX5_wipe_17 : decode cX5_wipe 17 = .ok (.ireturn, 1) := by decide +kernel
theorem dX5_spring_0 : decode cX5_spring 0 = .ok (.aload_n 0, 1) := by decide +kernel
theorem dX5_spring_1 : decode cX5_spring 1 = .ok (.getfield 22, 3) := by decide +kernel
theorem dX5_spring_4 : decode cX5_spring 4 = .ok (.aload_n 0, 1) := by decide +kernel
theorem dX5_spring_5 : decode cX5_spring 5 = .ok (.getfield 12, 3) := by decide +kernel
theorem dX5_spring_8 : decode cX5_spring 8 = .ok (.invokevirtual 223, 3) := by decide +kernel
theorem dX5_spring_11 : decode cX5_spring 11 = .ok (.istore_n 1, 1) := by decide +kernel
theorem dX5_spring_12 : decode cX5_spring 12 = .ok (.iload_n 1, 1) := by decide +kernel
theorem dX5_spring_13 : decode cX5_spring 13 = .ok (.ifCond .lt 17, 3) := by decide +kernel
theorem dX5_spring_16 : decode cX5_spring 16 = .ok (.aload_n 0, 1) := by decide +kernel
theorem dX5_spring_17 : decode cX5_spring 17 = .ok (.getfield 12, 3) := by decide +kernel
theorem dX5_spring_20 : decode cX5_spring 20 = .ok (.aload_n 0, 1) := by decide +kernel
theorem dX5_spring_21 : decode cX5_spring 21 = .ok (.getfield 22, 3) := by decide +kernel
theorem dX5_spring_24 : decode cX5_spring 24 = .ok (.getfield 227, 3) := by decide +kernel
theorem dX5_spring_27 : decode cX5_spring 27 = .ok (.invokevirtual 230, 3) := by decide +kernel
theorem dX5_spring_30 : decode cX5_spring 30 = .ok (.aload_n 0, 1) := by decide +kernel
theorem dX5_spring_31 : decode cX5_spring 31 = .ok (.getfield 22, 3) := by decide +kernel
theorem dX5_spring_34 : decode cX5_spring 34 = .ok (.iconst 0, 1) := by decide +kernel
theorem dX5_spring_35 : decode cX5_spring 35 = .ok (.putfield 216, 3) := by decide +kernel
theorem dX5_spring_38 : decode cX5_spring 38 = .ok (.iload_n 1, 1) := by decide +kernel
theorem dX5_spring_39 : decode cX5_spring 39 = .ok (.ireturn, 1) := by decide +kernel
theorem dX5_sheet_0 : decode cX5_sheet 0 = .ok (.aload_n 0, 1) := by decide +kernel
theorem dX5_sheet_1 : decode cX5_sheet 1 = .ok (.iload_n 1, 1) := by decide +kernel
theorem dX5_sheet_2 : decode cX5_sheet 2 = .ok (.invokevirtual 233, 3) := by decide +kernel
theorem dX5_sheet_5 : decode cX5_sheet 5 = .ok (.astore 4, 2) := by decide +kernel
theorem dX5_sheet_7 : decode cX5_sheet 7 = .ok (.aload 4, 2) := by decide +kernel
theorem dX5_sheet_9 : decode cX5_sheet 9 = .ok (.ifnull 10, 3) := by decide +kernel
theorem dX5_sheet_12 : decode cX5_sheet 12 = .ok (.iload_n 2, 1) := by decide +kernel
theorem dX5_sheet_13 : decode cX5_sheet 13 = .ok (.invokestatic 237, 3) := by decide +kernel
theorem dX5_sheet_16 : decode cX5_sheet 16 = .ok (.ifCond .ne 10, 3) := by decide +kernel
theorem dX5_sheet_19 : decode cX5_sheet 19 = .ok (.aload_n 0, 1) := by decide +kernel
theorem dX5_sheet_20 : decode cX5_sheet 20 = .ok (.ldc 58, 2) := by decide +kernel
theorem dX5_sheet_22 : decode cX5_sheet 22 = .ok (.invokevirtual 59, 3) := by decide +kernel
theorem dX5_sheet_25 : decode cX5_sheet 25 = .ok (.ireturn, 1) := by decide +kernel
theorem dX5_sheet_26 : decode cX5_sheet 26 = .ok (.iload_n 3, 1) := by decide +kernel
theorem dX5_sheet_27 : decode cX5_sheet 27 = .ok (.ifCond .ge 10, 3) := by decide +kernel
theorem dX5_sheet_30 : decode cX5_sheet 30 = .ok (.aload_n 0, 1) := by decide +kernel
theorem dX5_sheet_31 : decode cX5_sheet 31 = .ok (.ldc 239, 2) := by decide +kernel
theorem dX5_sheet_33 : decode cX5_sheet 33 = .ok (.invokevirtual 59, 3) := by decide +kernel
theorem dX5_sheet_36 : decode cX5_sheet 36 = .ok (.ireturn, 1) := by decide +kernel
theorem dX5_sheet_37 : decode cX5_sheet 37 = .ok (.iload_n 3, 1) := by decide +kernel
theorem dX5_sheet_38 : decode cX5_sheet 38 = .ok (.bipush 40, 2) := by decide +kernel
theorem dX5_sheet_40 : decode cX5_sheet 40 = .ok (.if_icmp .le 10, 3) := by decide +kernel
theorem dX5_sheet_43 : decode cX5_sheet 43 = .ok (.aload_n 0, 1) := by decide +kernel
theorem dX5_sheet_44 : decode cX5_sheet 44 = .ok (.ldc 58, 2) := by decide +kernel
theorem dX5_sheet_46 : decode cX5_sheet 46 = .ok (.invokevirtual 59, 3) := by decide +kernel
theorem dX5_sheet_49 : decode cX5_sheet 49 = .ok (.ireturn, 1) := by decide +kernel
theorem dX5_sheet_50 : decode cX5_sheet 50 = .ok (.aload 4, 2) := by decide +kernel
theorem dX5_sheet_52 : decode cX5_sheet 52 = .ok (.iload_n 2, 1) := by decide +kernel
theorem dX5_sheet_53 : decode cX5_sheet 53 = .ok (.iload_n 3, 1) := by decide +kernel
theorem dX5_sheet_54 : decode cX5_sheet 54 = .ok (.invokevirtual 240, 3) := by decide +kernel
theorem dX5_sheet_57 : decode cX5_sheet 57 = .ok (.aload 4, 2) := by decide +kernel
theorem dX5_sheet_59 : decode cX5_sheet 59 = .ok (.getfield 243, 3) := by decide +kernel
theorem dX5_sheet_62 : decode cX5_sheet 62 = .ok (.ireturn, 1) := by decide +kernel
theorem dX5_write_0 : decode cX5_write 0 = .ok (.aload_n 0, 1) := by decide +kernel
theorem dX5_write_1 : decode cX5_write 1 = .ok (.iload_n 1, 1) := by decide +kernel
theorem dX5_write_2 : decode cX5_write 2 = .ok (.invokevirtual 233, 3) := by decide +kernel
theorem dX5_write_5 : decode cX5_write 5 = .ok (.astore 5, 2) := by decide +kernel
theorem dX5_write_7 : decode cX5_write 7 = .ok (.aload 5, 2) := by decide +kernel
theorem dX5_write_9 : decode cX5_write 9 = .ok (.ifnonnull 11, 3) := by decide +kernel
theorem dX5_write_12 : decode cX5_write 12 = .ok (.aload_n 0, 1) := by decide +kernel
theorem dX5_write_13 : decode cX5_write 13 = .ok (.ldc 58, 2) := by decide +kernel
theorem dX5_write_15 : decode cX5_write 15 = .ok (.invokevirtual 59, 3) := by decide +kernel
theorem dX5_write_18 : decode cX5_write 18 = .ok (.i2l, 1) := by decide +kernel
theorem dX5_write_19 : decode cX5_write 19 = .ok (.lreturn, 1) := by decide +kernel
theorem dX5_write_20 : decode cX5_write 20 = .ok (.aload 5, 2) := by decide +kernel
theorem dX5_write_22 : decode cX5_write 22 = .ok (.invokevirtual 246, 3) := by decide +kernel
theorem dX5_write_25 : decode cX5_write 25 = .ok (.ifCond .eq 11, 3) := by decide +kernel
theorem dX5_write_28 : decode cX5_write 28 = .ok (.aload_n 0, 1) := by decide +kernel
theorem dX5_write_29 : decode cX5_write 29 = .ok (.ldc 250, 2) := by decide +kernel
theorem dX5_write_31 : decode cX5_write 31 = .ok (.invokevirtual 59, 3) := by decide +kernel
theorem dX5_write_34 : decode cX5_write 34 = .ok (.i2l, 1) := by decide +kernel
theorem dX5_write_35 : decode cX5_write 35 = .ok (.lreturn, 1) := by decide +kernel
theorem dX5_write_36 : decode cX5_write 36 = .ok (.iload_n 2, 1) := by decide +kernel
theorem dX5_write_37 : decode cX5_write 37 = .ok (.iconst 0, 1) := by decide +kernel
theorem dX5_write_38 : decode cX5_write 38 = .ok (.aload 5, 2) := by decide +kernel
theorem dX5_write_40 : decode cX5_write 40 = .ok (.getfield 243, 3) := by decide +kernel
theorem dX5_write_43 : decode cX5_write 43 = .ok (.iconst 1, 1) := by decide +kernel
theorem dX5_write_44 : decode cX5_write 44 = .ok (.isub, 1) := by decide +kernel
theorem dX5_write_45 : decode cX5_write 45 = .ok (.invokestatic 92, 3) := by decide +kernel
theorem dX5_write_48 : decode cX5_write 48 = .ok (.ifCond .ne 11, 3) := by decide +kernel
theorem dX5_write_51 : decode cX5_write 51 = .ok (.aload_n 0, 1) := by decide +kernel
theorem dX5_write_52 : decode cX5_write 52 = .ok (.ldc 58, 2) := by decide +kernel
theorem dX5_write_54 : decode cX5_write 54 = .ok (.invokevirtual 59, 3) := by decide +kernel
theorem dX5_write_57 : decode cX5_write 57 = .ok (.i2l, 1) := by decide +kernel
theorem dX5_write_58 : decode cX5_write 58 = .ok (.lreturn, 1) := by decide +kernel
theorem dX5_write_59 : decode cX5_write 59 = .ok (.aload 5, 2) := by decide +kernel
theorem dX5_write_61 : decode cX5_write 61 = .ok (.iload_n 2, 1) := by decide +kernel
theorem dX5_write_62 : decode cX5_write 62 = .ok (.invokevirtual 251, 3) := by decide +kernel
theorem dX5_write_65 : decode cX5_write 65 = .ok (.lstore 6, 2) := by decide +kernel
theorem dX5_write_67 : decode cX5_write 67 = .ok (.aload 5, 2) := by decide +kernel
theorem dX5_write_69 : decode cX5_write 69 = .ok (.iload_n 2, 1) := by decide +kernel
theorem dX5_write_70 : decode cX5_write 70 = .ok (.lload_n 3, 1) := by decide +kernel
theorem dX5_write_71 : decode cX5_write 71 = .ok (.invokevirtual 255, 3) := by decide +kernel
theorem dX5_write_74 : decode cX5_write 74 = .ok (.lload 6, 2) := by decide +kernel
theorem dX5_write_76 : decode cX5_write 76 = .ok (.lreturn, 1) := by decide +kernel
theorem dX5_copy_0 : decode cX5_copy 0 = .ok (.aload_n 0, 1) := by decide +kernel
theorem dX5_copy_1 : decode cX5_copy 1 = .ok (.iload_n 1, 1) := by decide +kernel
theorem dX5_copy_2 : decode cX5_copy 2 = .ok (.invokevirtual 233, 3) := by decide +kernel
theorem dX5_copy_5 : decode cX5_copy 5 = .ok (.astore 6, 2) := by decide +kernel
theorem dX5_copy_7 : decode cX5_copy 7 = .ok (.aload_n 0, 1) := by decide +kernel
theorem dX5_copy_8 : decode cX5_copy 8 = .ok (.iload_n 3, 1) := by decide +kernel
theorem dX5_copy_9 : decode cX5_copy 9 = .ok (.invokevirtual 233, 3) := by decide +kernel
theorem dX5_copy_12 : decode cX5_copy 12 = .ok (.astore 7, 2) := by decide +kernel
theorem dX5_copy_14 : decode cX5_copy 14 = .ok (.aload 6, 2) := by decide +kernel
theorem dX5_copy_16 : decode cX5_copy 16 = .ok (.ifnull 8, 3) := by decide +kernel
theorem dX5_copy_19 : decode cX5_copy 19 = .ok (.aload 7, 2) := by decide +kernel
theorem dX5_copy_21 : decode cX5_copy 21 = .ok (.ifnonnull 10, 3) := by decide +kernel
theorem dX5_copy_24 : decode cX5_copy 24 = .ok (.aload_n 0, 1) := by decide +kernel
theorem dX5_copy_25 : decode cX5_copy 25 = .ok (.ldc 58, 2) := by decide +kernel
theorem dX5_copy_27 : decode cX5_copy 27 = .ok (.invokevirtual 59, 3) := by decide +kernel
theorem dX5_copy_30 : decode cX5_copy 30 = .ok (.ireturn, 1) := by decide +kernel
theorem dX5_copy_31 : decode cX5_copy 31 = .ok (.aload 6, 2) := by decide +kernel
theorem dX5_copy_33 : decode cX5_copy 33 = .ok (.invokevirtual 246, 3) := by decide +kernel
theorem dX5_copy_36 : decode cX5_copy 36 = .ok (.ifCond .ne 11, 3) := by decide +kernel
theorem dX5_copy_39 : decode cX5_copy 39 = .ok (.aload 7, 2) := by decide +kernel
theorem dX5_copy_41 : decode cX5_copy 41 = .ok (.invokevirtual 246, 3) := by decide +kernel
theorem dX5_copy_44 : decode cX5_copy 44 = .ok (.ifCond .eq 10, 3) := by decide +kernel
theorem dX5_copy_47 : decode cX5_copy 47 = .ok (.aload_n 0, 1) := by decide +kernel
theorem dX5_copy_48 : decode cX5_copy 48 = .ok (.ldc 250, 2) := by decide +kernel
theorem dX5_copy_50 : decode cX5_copy 50 = .ok (.invokevirtual 59, 3) := by decide +kernel
theorem dX5_copy_53 : decode cX5_copy 53 = .ok (.ireturn, 1) := by decide +kernel
theorem dX5_copy_54 : decode cX5_copy 54 = .ok (.aload 6, 2) := by decide +kernel
theorem dX5_copy_56 : decode cX5_copy 56 = .ok (.getfield 259, 3) := by decide +kernel
theorem dX5_copy_59 : decode cX5_copy 59 = .ok (.aload 7, 2) := by decide +kernel
theorem dX5_copy_61 : decode cX5_copy 61 = .ok (.getfield 259, 3) := by decide +kernel
theorem dX5_copy_64 : decode cX5_copy 64 = .ok (.if_icmp .eq 10, 3) := by decide +kernel
theorem dX5_copy_67 : decode cX5_copy 67 = .ok (.aload_n 0, 1) := by decide +kernel
theorem dX5_copy_68 : decode cX5_copy 68 = .ok (.ldc 90, 2) := by decide +kernel
theorem dX5_copy_70 : decode cX5_copy 70 = .ok (.invokevirtual 59, 3) := by decide +kernel
theorem dX5_copy_73 : decode cX5_copy 73 = .ok (.ireturn, 1) := by decide +kernel
theorem dX5_copy_74 : decode cX5_copy 74 = .ok (.aload 6, 2) := by decide +kernel
theorem dX5_copy_76 : decode cX5_copy 76 = .ok (.iload_n 2, 1) := by decide +kernel
theorem dX5_copy_77 : decode cX5_copy 77 = .ok (.iload 5, 2) := by decide +kernel
theorem dX5_copy_79 : decode cX5_copy 79 = .ok (.invokevirtual 262, 3) := by decide +kernel
theorem dX5_copy_82 : decode cX5_copy 82 = .ok (.ifCond .eq 15, 3) := by decide +kernel
theorem dX5_copy_85 : decode cX5_copy 85 = .ok (.aload 7, 2) := by decide +kernel
theorem dX5_copy_87 : decode cX5_copy 87 = .ok (.iload 4, 2) := by decide +kernel
theorem dX5_copy_89 : decode cX5_copy 89 = .ok (.iload 5, 2) := by decide +kernel
theorem dX5_copy_91 : decode cX5_copy 91 = .ok (.invokevirtual 262, 3) := by decide +kernel
theorem dX5_copy_94 : decode cX5_copy 94 = .ok (.ifCond .ne 10, 3) := by decide +kernel
theorem dX5_copy_97 : decode cX5_copy 97 = .ok (.aload_n 0, 1) := by decide +kernel
theorem dX5_copy_98 : decode cX5_copy 98 = .ok (.ldc 58, 2) := by decide +kernel
theorem dX5_copy_100 : decode cX5_copy 100 = .ok (.invokevirtual 59, 3) := by decide +kernel
theorem dX5_copy_103 : decode cX5_copy 103 = .ok (.ireturn, 1) := by decide +kernel
theorem dX5_copy_104 : decode cX5_copy 104 = .ok (.aload 6, 2) := by decide +kernel
theorem dX5_copy_106 : decode cX5_copy 106 = .ok (.getfield 265, 3) := by decide +kernel
theorem dX5_copy_109 : decode cX5_copy 109 = .ok (.iload_n 2, 1) := by decide +kernel
theorem dX5_copy_110 : decode cX5_copy 110 = .ok (.aload 7, 2) := by decide +kernel
theorem dX5_copy_112 : decode cX5_copy 112 = .ok (.getfield 265, 3) := by decide +kernel
theorem dX5_copy_115 : decode cX5_copy 115 = .ok (.iload 4, 2) := by decide +kernel
theorem dX5_copy_117 : decode cX5_copy 117 = .ok (.iload 5, 2) := by decide +kernel
theorem dX5_copy_119 : decode cX5_copy 119 = .ok (.invokestatic 269, 3) := by decide +kernel
theorem dX5_copy_122 : decode cX5_copy 122 = .ok (.iload 5, 2) := by decide +kernel
theorem dX5_copy_124 : decode cX5_copy 124 = .ok (.ireturn, 1) := by decide +kernel
theorem dX5_lays_0 : decode cX5_lays 0 = .ok (.aload_n 0, 1) := by decide +kernel
theorem dX5_lays_1 : decode cX5_lays 1 = .ok (.iload_n 1, 1) := by decide +kernel
theorem dX5_lays_2 : decode cX5_lays 2 = .ok (.invokevirtual 233, 3) := by decide +kernel
theorem dX5_lays_5 : decode cX5_lays 5 = .ok (.astore_n 2, 1) := by decide +kernel
theorem dX5_lays_6 : decode cX5_lays 6 = .ok (.aload_n 2, 1) := by decide +kernel
theorem dX5_lays_7 : decode cX5_lays 7 = .ok (.ifnonnull 10, 3) := by decide +kernel
theorem dX5_lays_10 : decode cX5_lays 10 = .ok (.aload_n 0, 1) := by decide +kernel
theorem dX5_lays_11 : decode cX5_lays 11 = .ok (.ldc 58, 2) := by decide +kernel
theorem dX5_lays_13 : decode cX5_lays 13 = .ok (.invokevirtual 59, 3) := by decide +kernel
theorem dX5_lays_16 : decode cX5_lays 16 = .ok (.ireturn, 1) := by decide +kernel
theorem dX5_lays_17 : decode cX5_lays 17 = .ok (.aload_n 2, 1) := by decide +kernel
theorem dX5_lays_18 : decode cX5_lays 18 = .ok (.invokevirtual 246, 3) := by decide +kernel
theorem dX5_lays_21 : decode cX5_lays 21 = .ok (.ifCond .eq 10, 3) := by decide +kernel
theorem dX5_lays_24 : decode cX5_lays 24 = .ok (.aload_n 0, 1) := by decide +kernel
theorem dX5_lays_25 : decode cX5_lays 25 = .ok (.ldc 250, 2) := by decide +kernel
theorem dX5_lays_27 : decode cX5_lays 27 = .ok (.invokevirtual 59, 3) := by decide +kernel
theorem dX5_lays_30 : decode cX5_lays 30 = .ok (.ireturn, 1) := by decide +kernel
theorem dX5_lays_31 : decode cX5_lays 31 = .ok (.iconst 0, 1) := by decide +kernel
theorem dX5_lays_32 : decode cX5_lays 32 = .ok (.istore_n 3, 1) := by decide +kernel
theorem dX5_lays_33 : decode cX5_lays 33 = .ok (.iconst 0, 1) := by decide +kernel
theorem dX5_lays_34 : decode cX5_lays 34 = .ok (.istore 4, 2) := by decide +kernel
theorem dX5_lays_36 : decode cX5_lays 36 = .ok (.iload 4, 2) := by decide +kernel
theorem dX5_lays_38 : decode cX5_lays 38 = .ok (.aload_n 2, 1) := by decide +kernel
theorem dX5_lays_39 : decode cX5_lays 39 = .ok (.getfield 243, 3) := by decide +kernel
theorem dX5_lays_42 : decode cX5_lays 42 = .ok (.if_icmp .ge 60, 3) := by decide +kernel
theorem dX5_lays_45 : decode cX5_lays 45 = .ok (.aload_n 0, 1) := by decide +kernel
theorem dX5_lays_46 : decode cX5_lays 46 = .ok (.getfield 12, 3) := by decide +kernel
theorem dX5_lays_49 : decode cX5_lays 49 = .ok (.iload 4, 2) := by decide +kernel
theorem dX5_lays_51 : decode cX5_lays 51 = .ok (.invokevirtual 124, 3) := by decide +kernel
theorem dX5_lays_54 : decode cX5_lays 54 = .ok (.astore 5, 2) := by decide +kernel
theorem dX5_lays_56 : decode cX5_lays 56 = .ok (.aload_n 2, 1) := by decide +kernel
theorem dX5_lays_57 : decode cX5_lays 57 = .ok (.iload 4, 2) := by decide +kernel
theorem dX5_lays_59 : decode cX5_lays 59 = .ok (.invokevirtual 251, 3) := by decide +kernel
theorem dX5_lays_62 : decode cX5_lays 62 = .ok (.lstore 6, 2) := by decide +kernel
theorem dX5_lays_64 : decode cX5_lays 64 = .ok (.aload 5, 2) := by decide +kernel
theorem dX5_lays_66 : decode cX5_lays 66 = .ok (.ifnull 30, 3) := by decide +kernel
theorem dX5_lays_69 : decode cX5_lays 69 = .ok (.lload 6, 2) := by decide +kernel
theorem dX5_lays_71 : decode cX5_lays 71 = .ok (.lconst 0, 1) := by decide +kernel
theorem dX5_lays_72 : decode cX5_lays 72 = .ok (.lcmp, 1) := by decide +kernel
theorem dX5_lays_73 : decode cX5_lays 73 = .ok (.ifCond .lt 23, 3) := by decide +kernel
theorem dX5_lays_76 : decode cX5_lays 76 = .ok (.lload 6, 2) := by decide +kernel
theorem dX5_lays_78 : decode cX5_lays 78 = .ok (.ldc2_w 275, 3) := by decide +kernel
theorem dX5_lays_81 : decode cX5_lays 81 = .ok (.lcmp, 1) := by decide +kernel
theorem dX5_lays_82 : decode cX5_lays 82 = .ok (.ifCond .gt 14, 3) := by decide +kernel
theorem dX5_lays_85 : decode cX5_lays 85 = .ok (.aload 5, 2) := by decide +kernel
theorem dX5_lays_87 : decode cX5_lays 87 = .ok (.lload 6, 2) := by decide +kernel
theorem dX5_lays_89 : decode cX5_lays 89 = .ok (.l2i, 1) := by decide +kernel
theorem dX5_lays_90 : decode cX5_lays 90 = .ok (.putfield 128, 3) := by decide +kernel
theorem dX5_lays_93 : decode cX5_lays 93 = .ok (.iinc 3 1, 3) := by decide +kernel
theorem dX5_lays_96 : decode cX5_lays 96 = .ok (.iinc 4 1, 3) := by decide +kernel
theorem dX5_lays_99 : decode cX5_lays 99 = .ok (.goto (-63), 3) := by decide +kernel
theorem dX5_lays_102 : decode cX5_lays 102 = .ok (.iload_n 3, 1) := by decide +kernel
theorem dX5_lays_103 : decode cX5_lays 103 = .ok (.ireturn, 1) := by decide +kernel
theorem dX5_book_0 : decode cX5_book 0 = .ok (.aload_n 0, 1) := by decide +kernel
theorem dX5_book_1 : decode cX5_book 1 = .ok (.iload_n 1, 1) := by decide +kernel
theorem dX5_book_2 : decode cX5_book 2 = .ok (.invokevirtual 233, 3) := by decide +kernel
theorem dX5_book_5 : decode cX5_book 5 = .ok (.astore_n 3, 1) := by decide +kernel
theorem dX5_book_6 : decode cX5_book 6 = .ok (.aload_n 3, 1) := by decide +kernel
theorem dX5_book_7 : decode cX5_book 7 = .ok (.ifnonnull 10, 3) := by decide +kernel
theorem dX5_book_10 : decode cX5_book 10 = .ok (.aload_n 0, 1) := by decide +kernel
theorem dX5_book_11 : decode cX5_book 11 = .ok (.ldc 58, 2) := by decide +kernel
theorem dX5_book_13 : decode cX5_book 13 = .ok (.invokevirtual 59, 3) := by decide +kernel
theorem dX5_book_16 : decode cX5_book 16 = .ok (.ireturn, 1) := by decide +kernel
theorem dX5_book_17 : decode cX5_book 17 = .ok (.aload_n 3, 1) := by decide +kernel
theorem dX5_book_18 : decode cX5_book 18 = .ok (.invokevirtual 246, 3) := by decide +kernel
theorem dX5_book_21 : decode cX5_book 21 = .ok (.ifCond .eq 10, 3) := by decide +kernel
theorem dX5_book_24 : decode cX5_book 24 = .ok (.aload_n 0, 1) := by decide +kernel
theorem dX5_book_25 : decode cX5_book 25 = .ok (.ldc 250, 2) := by decide +kernel
theorem dX5_book_27 : decode cX5_book 27 = .ok (.invokevirtual 59, 3) := by decide +kernel
theorem dX5_book_30 : decode cX5_book 30 = .ok (.ireturn, 1) := by decide +kernel
theorem dX5_book_31 : decode cX5_book 31 = .ok (.aload_n 0, 1) := by decide +kernel
theorem dX5_book_32 : decode cX5_book 32 = .ok (.getfield 12, 3) := by decide +kernel
theorem dX5_book_35 : decode cX5_book 35 = .ok (.iload_n 2, 1) := by decide +kernel
theorem dX5_book_36 : decode cX5_book 36 = .ok (.invokevirtual 124, 3) := by decide +kernel
theorem dX5_book_39 : decode cX5_book 39 = .ok (.astore 4, 2) := by decide +kernel
theorem dX5_book_41 : decode cX5_book 41 = .ok (.aload 4, 2) := by decide +kernel
theorem dX5_book_43 : decode cX5_book 43 = .ok (.ifnonnull 10, 3) := by decide +kernel
theorem dX5_book_46 : decode cX5_book 46 = .ok (.aload_n 0, 1) := by decide +kernel
theorem dX5_book_47 : decode cX5_book 47 = .ok (.ldc 58, 2) := by decide +kernel
theorem dX5_book_49 : decode cX5_book 49 = .ok (.invokevirtual 59, 3) := by decide +kernel
theorem dX5_book_52 : decode cX5_book 52 = .ok (.ireturn, 1) := by decide +kernel
theorem dX5_book_53 : decode cX5_book 53 = .ok (.aload_n 0, 1) := by decide +kernel
theorem dX5_book_54 : decode cX5_book 54 = .ok (.aload_n 3, 1) := by decide +kernel
theorem dX5_book_55 : decode cX5_book 55 = .ok (.getfield 243, 3) := by decide +kernel
theorem dX5_book_58 : decode cX5_book 58 = .ok (.invokevirtual 176, 3) := by decide +kernel
theorem dX5_book_61 : decode cX5_book 61 = .ok (.aload_n 0, 1) := by decide +kernel
theorem dX5_book_62 : decode cX5_book 62 = .ok (.getfield 42, 3) := by decide +kernel
theorem dX5_book_65 : decode cX5_book 65 = .ok (.aload 4, 2) := by decide +kernel
theorem dX5_book_67 : decode cX5_book 67 = .ok (.invokevirtual 205, 3) := by decide +kernel
theorem dX5_book_70 : decode cX5_book 70 = .ok (.iconst 0, 1) := by decide +kernel
theorem dX5_book_71 : decode cX5_book 71 = .ok (.istore 5, 2) := by decide +kernel
theorem dX5_book_73 : decode cX5_book 73 = .ok (.iload 5, 2) := by decide +kernel
theorem dX5_book_75 : decode cX5_book 75 = .ok (.aload_n 3, 1) := by decide +kernel
theorem dX5_book_76 : decode cX5_book 76 = .ok (.getfield 243, 3) := by decide +kernel
theorem dX5_book_79 : decode cX5_book 79 = .ok (.if_icmp .ge 61, 3) := by decide +kernel
theorem dX5_book_82 : decode cX5_book 82 = .ok (.iload 5, 2) := by decide +kernel
theorem dX5_book_84 : decode cX5_book 84 = .ok (.aload_n 0, 1) := by decide +kernel
theorem dX5_book_85 : decode cX5_book 85 = .ok (.getfield 36, 3) := by decide +kernel
theorem dX5_book_88 : decode cX5_book 88 = .ok (.arraylength, 1) := by decide +kernel
theorem dX5_book_89 : decode cX5_book 89 = .ok (.if_icmp .ge 51, 3) := by decide +kernel
theorem dX5_book_92 : decode cX5_book 92 = .ok (.aload_n 3, 1) := by decide +kernel
theorem dX5_book_93 : decode cX5_book 93 = .ok (.iload 5, 2) := by decide +kernel
theorem dX5_book_95 : decode cX5_book 95 = .ok (.aload_n 0, 1) := by decide +kernel
theorem dX5_book_96 : decode cX5_book 96 = .ok (.getfield 42, 3) := by decide +kernel
theorem dX5_book_99 : decode cX5_book 99 = .ok (.getfield 128, 3) := by decide +kernel
theorem dX5_book_102 : decode cX5_book 102 = .ok (.i2l, 1) := by decide +kernel
theorem dX5_book_103 : decode cX5_book 103 = .ok (.invokevirtual 255, 3) := by decide +kernel
theorem dX5_book_106 : decode cX5_book 106 = .ok (.aload_n 0, 1) := by decide +kernel
theorem dX5_book_107 : decode cX5_book 107 = .ok (.getfield 42, 3) := by decide +kernel
theorem dX5_book_110 : decode cX5_book 110 = .ok (.aload_n 0, 1) := by decide +kernel
theorem dX5_book_111 : decode cX5_book 111 = .ok (.getfield 36, 3) := by decide +kernel
theorem dX5_book_114 : decode cX5_book 114 = .ok (.iload 5, 2) := by decide +kernel
theorem dX5_book_116 : decode cX5_book 116 = .ok (.iaload, 1) := by decide +kernel
theorem dX5_book_117 : decode cX5_book 117 = .ok (.aload_n 0, 1) := by decide +kernel
theorem dX5_book_118 : decode cX5_book 118 = .ok (.getfield 12, 3) := by decide +kernel
theorem dX5_book_121 : decode cX5_book 121 = .ok (.getfield 111, 3) := by decide +kernel
theorem dX5_book_124 : decode cX5_book 124 = .ok (.aload_n 0, 1) := by decide +kernel
theorem dX5_book_125 : decode cX5_book 125 = .ok (.getfield 12, 3) := by decide +kernel
theorem dX5_book_128 : decode cX5_book 128 = .ok (.getfield 108, 3) := by decide +kernel
theorem dX5_book_131 : decode cX5_book 131 = .ok (.invokevirtual 277, 3) := by decide +kernel
theorem dX5_book_134 : decode cX5_book 134 = .ok (.iinc 5 1, 3) := by decide +kernel
theorem dX5_book_137 : decode cX5_book 137 = .ok (.goto (-64), 3) := by decide +kernel
theorem dX5_book_140 : decode cX5_book 140 = .ok (.aload_n 3, 1) := by decide +kernel
theorem dX5_book_141 : decode cX5_book 141 = .ok (.getfield 243, 3) := by decide +kernel
theorem dX5_book_144 : decode cX5_book 144 = .ok (.ireturn, 1) := by decide +kernel
theorem dX5_read_0 : decode cX5_read 0 = .ok (.aload_n 0, 1) := by decide +kernel
theorem dX5_read_1 : decode cX5_read 1 = .ok (.iload_n 1, 1) := by decide +kernel
theorem dX5_read_2 : decode cX5_read 2 = .ok (.invokevirtual 233, 3) := by decide +kernel
theorem dX5_read_5 : decode cX5_read 5 = .ok (.astore_n 3, 1) := by decide +kernel
theorem dX5_read_6 : decode cX5_read 6 = .ok (.aload_n 3, 1) := by decide +kernel
theorem dX5_read_7 : decode cX5_read 7 = .ok (.ifnonnull 10, 3) := by decide +kernel
theorem dX5_read_10 : decode cX5_read 10 = .ok (.aload_n 0, 1) := by decide +kernel
theorem dX5_read_11 : decode cX5_read 11 = .ok (.ldc 58, 2) := by decide +kernel
theorem dX5_read_13 : decode cX5_read 13 = .ok (.invokevirtual 59, 3) := by decide +kernel
theorem dX5_read_16 : decode cX5_read 16 = .ok (.ireturn, 1) := by decide +kernel
theorem dX5_read_17 : decode cX5_read 17 = .ok (.aload_n 3, 1) := by decide +kernel
theorem dX5_read_18 : decode cX5_read 18 = .ok (.invokevirtual 246, 3) := by decide +kernel
theorem dX5_read_21 : decode cX5_read 21 = .ok (.ifCond .eq 10, 3) := by decide +kernel
theorem dX5_read_24 : decode cX5_read 24 = .ok (.aload_n 0, 1) := by decide +kernel
theorem dX5_read_25 : decode cX5_read 25 = .ok (.ldc 250, 2) := by decide +kernel
theorem dX5_read_27 : decode cX5_read 27 = .ok (.invokevirtual 59, 3) := by decide +kernel
theorem dX5_read_30 : decode cX5_read 30 = .ok (.ireturn, 1) := by decide +kernel
theorem dX5_read_31 : decode cX5_read 31 = .ok (.aload_n 0, 1) := by decide +kernel
theorem dX5_read_32 : decode cX5_read 32 = .ok (.getfield 12, 3) := by decide +kernel
theorem dX5_read_35 : decode cX5_read 35 = .ok (.iload_n 2, 1) := by decide +kernel
theorem dX5_read_36 : decode cX5_read 36 = .ok (.invokevirtual 124, 3) := by decide +kernel
theorem dX5_read_39 : decode cX5_read 39 = .ok (.astore 4, 2) := by decide +kernel
theorem dX5_read_41 : decode cX5_read 41 = .ok (.aload 4, 2) := by decide +kernel
theorem dX5_read_43 : decode cX5_read 43 = .ok (.ifnonnull 10, 3) := by decide +kernel
theorem dX5_read_46 : decode cX5_read 46 = .ok (.aload_n 0, 1) := by decide +kernel
theorem dX5_read_47 : decode cX5_read 47 = .ok (.ldc 58, 2) := by decide +kernel
theorem dX5_read_49 : decode cX5_read 49 = .ok (.invokevirtual 59, 3) := by decide +kernel
theorem dX5_read_52 : decode cX5_read 52 = .ok (.ireturn, 1) := by decide +kernel
theorem dX5_read_53 : decode cX5_read 53 = .ok (.aload_n 0, 1) := by decide +kernel
theorem dX5_read_54 : decode cX5_read 54 = .ok (.aload_n 3, 1) := by decide +kernel
theorem dX5_read_55 : decode cX5_read 55 = .ok (.getfield 243, 3) := by decide +kernel
theorem dX5_read_58 : decode cX5_read 58 = .ok (.invokevirtual 176, 3) := by decide +kernel
theorem dX5_read_61 : decode cX5_read 61 = .ok (.iconst 0, 1) := by decide +kernel
theorem dX5_read_62 : decode cX5_read 62 = .ok (.istore 5, 2) := by decide +kernel
theorem dX5_read_64 : decode cX5_read 64 = .ok (.iconst 0, 1) := by decide +kernel
theorem dX5_read_65 : decode cX5_read 65 = .ok (.istore 6, 2) := by decide +kernel
theorem dX5_read_67 : decode cX5_read 67 = .ok (.iload 6, 2) := by decide +kernel
theorem dX5_read_69 : decode cX5_read 69 = .ok (.aload_n 0, 1) := by decide +kernel
theorem dX5_read_70 : decode cX5_read 70 = .ok (.getfield 12, 3) := by decide +kernel
theorem dX5_read_73 : decode cX5_read 73 = .ok (.getfield 63, 3) := by decide +kernel
theorem dX5_read_76 : decode cX5_read 76 = .ok (.if_icmp .ge 47, 3) := by decide +kernel
theorem dX5_read_79 : decode cX5_read 79 = .ok (.iconst (-1), 1) := by decide +kernel
theorem dX5_read_80 : decode cX5_read 80 = .ok (.istore 7, 2) := by decide +kernel
theorem dX5_read_82 : decode cX5_read 82 = .ok (.iload 7, 2) := by decide +kernel
theorem dX5_read_84 : decode cX5_read 84 = .ok (.aload_n 0, 1) := by decide +kernel
theorem dX5_read_85 : decode cX5_read 85 = .ok (.getfield 12, 3) := by decide +kernel
theorem dX5_read_88 : decode cX5_read 88 = .ok (.getfield 63, 3) := by decide +kernel
theorem dX5_read_91 : decode cX5_read 91 = .ok (.if_icmp .ge 26, 3) := by decide +kernel
theorem dX5_read_94 : decode cX5_read 94 = .ok (.aload_n 0, 1) := by decide +kernel
theorem dX5_read_95 : decode cX5_read 95 = .ok (.aload_n 3, 1) := by decide +kernel
theorem dX5_read_96 : decode cX5_read 96 = .ok (.aload 4, 2) := by decide +kernel
theorem dX5_read_98 : decode cX5_read 98 = .ok (.iload 6, 2) := by decide +kernel
theorem dX5_read_100 : decode cX5_read 100 = .ok (.iload 7, 2) := by decide +kernel
theorem dX5_read_102 : decode cX5_read 102 = .ok (.invokevirtual 280, 3) := by decide +kernel
theorem dX5_read_105 : decode cX5_read 105 = .ok (.ifCond .eq 6, 3) := by decide +kernel
theorem dX5_read_108 : decode cX5_read 108 = .ok (.iinc 5 1, 3) := by decide +kernel
theorem dX5_read_111 : decode cX5_read 111 = .ok (.iinc 7 1, 3) := by decide +kernel
theorem dX5_read_114 : decode cX5_read 114 = .ok (.goto (-32), 3) := by decide +kernel
theorem dX5_read_117 : decode cX5_read 117 = .ok (.iinc 6 1, 3) := by decide +kernel
theorem dX5_read_120 : decode cX5_read 120 = .ok (.goto (-53), 3) := by decide +kernel
theorem dX5_read_123 : decode cX5_read 123 = .ok (.iload 5, 2) := by decide +kernel
theorem dX5_read_125 : decode cX5_read 125 = .ok (.ireturn, 1) := by decide +kernel
theorem dX5_image_0 : decode cX5_image 0 = .ok (.aload_n 0, 1) := by decide +kernel
theorem dX5_image_1 : decode cX5_image 1 = .ok (.getfield 16, 3) := by decide +kernel
theorem dX5_image_4 : decode cX5_image 4 = .ok (.aload_n 0, 1) := by decide +kernel
theorem dX5_image_5 : decode cX5_image 5 = .ok (.getfield 12, 3) := by decide +kernel
theorem dX5_image_8 : decode cX5_image 8 = .ok (.invokevirtual 230, 3) := by decide +kernel
theorem dX5_image_11 : decode cX5_image 11 = .ok (.aload_n 0, 1) := by decide +kernel
theorem dX5_image_12 : decode cX5_image 12 = .ok (.iconst 1, 1) := by decide +kernel
theorem dX5_image_13 : decode cX5_image 13 = .ok (.putfield 284, 3) := by decide +kernel
theorem dX5_image_16 : decode cX5_image 16 = .ok (.iconst 1, 1) := by decide +kernel
theorem dX5_image_17 : decode cX5_image 17 = .ok (.ireturn, 1) := by decide +kernel
theorem dX5_undo_0 : decode cX5_undo 0 = .ok (.aload_n 0, 1) := by decide +kernel
theorem dX5_undo_1 : decode cX5_undo 1 = .ok (.getfield 284, 3) := by decide +kernel
theorem dX5_undo_4 : decode cX5_undo 4 = .ok (.ifCond .ne 10, 3) := by decide +kernel
theorem dX5_undo_7 : decode cX5_undo 7 = .ok (.aload_n 0, 1) := by decide +kernel
theorem dX5_undo_8 : decode cX5_undo 8 = .ok (.ldc 187, 2) := by decide +kernel
theorem dX5_undo_10 : decode cX5_undo 10 = .ok (.invokevirtual 59, 3) := by decide +kernel
theorem dX5_undo_13 : decode cX5_undo 13 = .ok (.ireturn, 1) := by decide +kernel
theorem dX5_undo_14 : decode cX5_undo 14 = .ok (.aload_n 0, 1) := by decide +kernel
theorem dX5_undo_15 : decode cX5_undo 15 = .ok (.getfield 12, 3) := by decide +kernel
theorem dX5_undo_18 : decode cX5_undo 18 = .ok (.aload_n 0, 1) := by decide +kernel
theorem dX5_undo_19 : decode cX5_undo 19 = .ok (.getfield 16, 3) := by decide +kernel
theorem dX5_undo_22 : decode cX5_undo 22 = .ok (.invokevirtual 230, 3) := by decide +kernel
theorem dX5_undo_25 : decode cX5_undo 25 = .ok (.aload_n 0, 1) := by decide +kernel
theorem dX5_undo_26 : decode cX5_undo 26 = .ok (.getfield 12, 3) := by decide +kernel
theorem dX5_undo_29 : decode cX5_undo 29 = .ok (.getfield 63, 3) := by decide +kernel
theorem dX5_undo_32 : decode cX5_undo 32 = .ok (.ireturn, 1) := by decide +kernel
theorem dX5_tear_0 : decode cX5_tear 0 = .ok (.aload_n 0, 1) := by decide +kernel
theorem dX5_tear_1 : decode cX5_tear 1 = .ok (.getfield 284, 3) := by decide +kernel
theorem dX5_tear_4 : decode cX5_tear 4 = .ok (.ifCond .eq 7, 3) := by decide +kernel
theorem dX5_tear_7 : decode cX5_tear 7 = .ok (.iconst 1, 1) := by decide +kernel
theorem dX5_tear_8 : decode cX5_tear 8 = .ok (.goto 4, 3) := by decide +kernel
theorem dX5_tear_11 : decode cX5_tear 11 = .ok (.iconst 0, 1) := by decide +kernel
theorem dX5_tear_12 : decode cX5_tear 12 = .ok (.istore_n 1, 1) := by decide +kernel
theorem dX5_tear_13 : decode cX5_tear 13 = .ok (.aload_n 0, 1) := by decide +kernel
theorem dX5_tear_14 : decode cX5_tear 14 = .ok (.iconst 0, 1) := by decide +kernel
theorem dX5_tear_15 : decode cX5_tear 15 = .ok (.putfield 284, 3) := by decide +kernel
theorem dX5_tear_18 : decode cX5_tear 18 = .ok (.iload_n 1, 1) := by decide +kernel
theorem dX5_tear_19 : decode cX5_tear 19 = .ok (.ireturn, 1) := by decide +kernel
theorem dX5_count_0 : decode cX5_count 0 = .ok (.iload_n 1, 1) := by decide +kernel
theorem dX5_count_1 : decode cX5_count 1 = .ok (.tableswitch 63 0 3 #[31, 39, 47, 55], 31) := by decide +kernel
theorem dX5_count_32 : decode cX5_count 32 = .ok (.aload_n 0, 1) := by decide +kernel
theorem dX5_count_33 : decode cX5_count 33 = .ok (.getfield 12, 3) := by decide +kernel
theorem dX5_count_36 : decode cX5_count 36 = .ok (.getfield 63, 3) := by decide +kernel
theorem dX5_count_39 : decode cX5_count 39 = .ok (.ireturn, 1) := by decide +kernel
theorem dX5_count_40 : decode cX5_count 40 = .ok (.aload_n 0, 1) := by decide +kernel
theorem dX5_count_41 : decode cX5_count 41 = .ok (.getfield 22, 3) := by decide +kernel
theorem dX5_count_44 : decode cX5_count 44 = .ok (.getfield 216, 3) := by decide +kernel
theorem dX5_count_47 : decode cX5_count 47 = .ok (.ireturn, 1) := by decide +kernel
theorem dX5_count_48 : decode cX5_count 48 = .ok (.aload_n 0, 1) := by decide +kernel
theorem dX5_count_49 : decode cX5_count 49 = .ok (.getfield 12, 3) := by decide +kernel
theorem dX5_count_52 : decode cX5_count 52 = .ok (.getfield 117, 3) := by decide +kernel
theorem dX5_count_55 : decode cX5_count 55 = .ok (.ireturn, 1) := by decide +kernel
theorem dX5_count_56 : decode cX5_count 56 = .ok (.aload_n 0, 1) := by decide +kernel
theorem dX5_count_57 : decode cX5_count 57 = .ok (.getfield 12, 3) := by decide +kernel
theorem dX5_count_60 : decode cX5_count 60 = .ok (.invokevirtual 288, 3) := by decide +kernel
theorem dX5_count_63 : decode cX5_count 63 = .ok (.ireturn, 1) := by decide +kernel
theorem dX5_count_64 : decode cX5_count 64 = .ok (.aload_n 0, 1) := by decide +kernel
theorem dX5_count_65 : decode cX5_count 65 = .ok (.ldc 58, 2) := by decide +kernel
theorem dX5_count_67 : decode cX5_count 67 = .ok (.invokevirtual 59, 3) := by decide +kernel
theorem dX5_count_70 : decode cX5_count 70 = .ok (.ireturn, 1) := by decide +kernel
theorem dX5_status_0 : decode cX5_status 0 = .ok (.iload_n 1, 1) := by decide +kernel
theorem dX5_status_1 : decode cX5_status 1 = .ok (.iconst (-1), 1) := by decide +kernel
theorem dX5_status_2 : decode cX5_status 2 = .ok (.bipush 6, 2) := by decide +kernel
theorem dX5_status_4 : decode cX5_status 4 = .ok (.invokestatic 92, 3) := by decide +kernel
theorem dX5_status_7 : decode cX5_status 7 = .ok (.ifCond .ne 10, 3) := by decide +kernel
theorem dX5_status_10 : decode cX5_status 10 = .ok (.aload_n 0, 1) := by decide +kernel
theorem dX5_status_11 : decode cX5_status 11 = .ok (.ldc 58, 2) := by decide +kernel
theorem dX5_status_13 : decode cX5_status 13 = .ok (.invokevirtual 59, 3) := by decide +kernel
theorem dX5_status_16 : decode cX5_status 16 = .ok (.ireturn, 1) := by decide +kernel
theorem dX5_status_17 : decode cX5_status 17 = .ok (.iload_n 1, 1) := by decide +kernel
theorem dX5_status_18 : decode cX5_status 18 = .ok (.ifCond .lt 10, 3) := by decide +kernel
theorem dX5_status_21 : decode cX5_status 21 = .ok (.aload_n 0, 1) := by decide +kernel
theorem dX5_status_22 : decode cX5_status 22 = .ok (.getfield 32, 3) := by decide +kernel
theorem dX5_status_25 : decode cX5_status 25 = .ok (.iload_n 1, 1) := by decide +kernel
theorem dX5_status_26 : decode cX5_status 26 = .ok (.iaload, 1) := by decide +kernel
theorem dX5_status_27 : decode cX5_status 27 = .ok (.ireturn, 1) := by decide +kernel
theorem dX5_status_28 : decode cX5_status 28 = .ok (.iconst 0, 1) := by decide +kernel
theorem dX5_status_29 : decode cX5_status 29 = .ok (.istore_n 2, 1) := by decide +kernel
theorem dX5_status_30 : decode cX5_status 30 = .ok (.iconst 0, 1) := by decide +kernel
theorem dX5_status_31 : decode cX5_status 31 = .ok (.istore_n 3, 1) := by decide +kernel
theorem dX5_status_32 : decode cX5_status 32 = .ok (.iload_n 3, 1) := by decide +kernel
theorem dX5_status_33 : decode cX5_status 33 = .ok (.aload_n 0, 1) := by decide +kernel
theorem dX5_status_34 : decode cX5_status 34 = .ok (.getfield 32, 3) := by decide +kernel
theorem dX5_status_37 : decode cX5_status 37 = .ok (.arraylength, 1) := by decide +kernel
theorem dX5_status_38 : decode cX5_status 38 = .ok (.if_icmp .ge 18, 3) := by decide +kernel
theorem dX5_status_41 : decode cX5_status 41 = .ok (.iload_n 2, 1) := by decide +kernel
theorem dX5_status_42 : decode cX5_status 42 = .ok (.aload_n 0, 1) := by decide +kernel
theorem dX5_status_43 : decode cX5_status 43 = .ok (.getfield 32, 3) := by decide +kernel
theorem dX5_status_46 : decode cX5_status 46 = .ok (.iload_n 3, 1) := by decide +kernel
theorem dX5_status_47 : decode cX5_status 47 = .ok (.iaload, 1) := by decide +kernel
theorem dX5_status_48 : decode cX5_status 48 = .ok (.iadd, 1) := by decide +kernel
theorem dX5_status_49 : decode cX5_status 49 = .ok (.istore_n 2, 1) := by decide +kernel
theorem dX5_status_50 : decode cX5_status 50 = .ok (.iinc 3 1, 3) := by decide +kernel
theorem dX5_status_53 : decode cX5_status 53 = .ok (.goto (-21), 3) := by decide +kernel
theorem dX5_status_56 : decode cX5_status 56 = .ok (.iload_n 2, 1) := by decide +kernel
theorem dX5_status_57 : decode cX5_status 57 = .ok (.ireturn, 1) := by decide +kernel
theorem dX5_found_0 : decode cX5_found 0 = .ok (.ldc 58, 2) := by decide +kernel
theorem dX5_found_2 : decode cX5_found 2 = .ok (.iload_n 1, 1) := by decide +kernel
theorem dX5_found_3 : decode cX5_found 3 = .ok (.isub, 1) := by decide +kernel
theorem dX5_found_4 : decode cX5_found 4 = .ok (.istore_n 2, 1) := by decide +kernel
theorem dX5_found_5 : decode cX5_found 5 = .ok (.iload_n 2, 1) := by decide +kernel
theorem dX5_found_6 : decode cX5_found 6 = .ok (.ifCond .lt 22, 3) := by decide +kernel
theorem dX5_found_9 : decode cX5_found 9 = .ok (.iload_n 2, 1) := by decide +kernel
theorem dX5_found_10 : decode cX5_found 10 = .ok (.aload_n 0, 1) := by decide +kernel
theorem dX5_found_11 : decode cX5_found 11 = .ok (.getfield 32, 3) := by decide +kernel
theorem dX5_found_14 : decode cX5_found 14 = .ok (.arraylength, 1) := by decide +kernel
theorem dX5_found_15 : decode cX5_found 15 = .ok (.if_icmp .ge 13, 3) := by decide +kernel
theorem dX5_found_18 : decode cX5_found 18 = .ok (.aload_n 0, 1) := by decide +kernel
theorem dX5_found_19 : decode cX5_found 19 = .ok (.getfield 32, 3) := by decide +kernel
theorem dX5_found_22 : decode cX5_found 22 = .ok (.iload_n 2, 1) := by decide +kernel
theorem dX5_found_23 : decode cX5_found 23 = .ok (.dup2, 1) := by decide +kernel
theorem dX5_found_24 : decode cX5_found 24 = .ok (.iaload, 1) := by decide +kernel
theorem dX5_found_25 : decode cX5_found 25 = .ok (.iconst 1, 1) := by decide +kernel
theorem dX5_found_26 : decode cX5_found 26 = .ok (.iadd, 1) := by decide +kernel
theorem dX5_found_27 : decode cX5_found 27 = .ok (.iastore, 1) := by decide +kernel
theorem dX5_found_28 : decode cX5_found 28 = .ok (.iload_n 1, 1) := by decide +kernel
theorem dX5_found_29 : decode cX5_found 29 = .ok (.ireturn, 1) := by decide +kernel
theorem dX5_sheetAt_0 : decode cX5_sheetAt 0 = .ok (.iload_n 1, 1) := by decide +kernel
theorem dX5_sheetAt_1 : decode cX5_sheetAt 1 = .ok (.ifCond .lt 21, 3) := by decide +kernel
theorem dX5_sheetAt_4 : decode cX5_sheetAt 4 = .ok (.iload_n 1, 1) := by decide +kernel
theorem dX5_sheetAt_5 : decode cX5_sheetAt 5 = .ok (.aload_n 0, 1) := by decide +kernel
theorem dX5_sheetAt_6 : decode cX5_sheetAt 6 = .ok (.getfield 28, 3) := by decide +kernel
theorem dX5_sheetAt_9 : decode cX5_sheetAt 9 = .ok (.arraylength, 1) := by decide +kernel
theorem dX5_sheetAt_10 : decode cX5_sheetAt 10 = .ok (.if_icmp .ge 12, 3) := by decide +kernel
theorem dX5_sheetAt_13 : decode cX5_sheetAt 13 = .ok (.aload_n 0, 1) := by decide +kernel
theorem dX5_sheetAt_14 : decode cX5_sheetAt 14 = .ok (.getfield 28, 3) := by decide +kernel
theorem dX5_sheetAt_17 : decode cX5_sheetAt 17 = .ok (.iload_n 1, 1) := by decide +kernel
theorem dX5_sheetAt_18 : decode cX5_sheetAt 18 = .ok (.aaload, 1) := by decide +kernel
theorem dX5_sheetAt_19 : decode cX5_sheetAt 19 = .ok (.goto 4, 3) := by decide +kernel
theorem dX5_sheetAt_22 : decode cX5_sheetAt 22 = .ok (.aconst_null, 1) := by decide +kernel
theorem dX5_sheetAt_23 : decode cX5_sheetAt 23 = .ok (.areturn, 1) := by decide +kernel
theorem dX5_lookAhead_0 : decode cX5_lookAhead 0 = .ok (.iconst 0, 1) := by decide +kernel
theorem dX5_lookAhead_1 : decode cX5_lookAhead 1 = .ok (.istore_n 2, 1) := by decide +kernel
theorem dX5_lookAhead_2 : decode cX5_lookAhead 2 = .ok (.iload_n 2, 1) := by decide +kernel
theorem dX5_lookAhead_3 : decode cX5_lookAhead 3 = .ok (.iload_n 1, 1) := by decide +kernel
theorem dX5_lookAhead_4 : decode cX5_lookAhead 4 = .ok (.if_icmp .ge 40, 3) := by decide +kernel
theorem dX5_lookAhead_7 : decode cX5_lookAhead 7 = .ok (.iload_n 2, 1) := by decide +kernel
theorem dX5_lookAhead_8 : decode cX5_lookAhead 8 = .ok (.aload_n 0, 1) := by decide +kernel
theorem dX5_lookAhead_9 : decode cX5_lookAhead 9 = .ok (.getfield 36, 3) := by decide +kernel
theorem dX5_lookAhead_12 : decode cX5_lookAhead 12 = .ok (.arraylength, 1) := by decide +kernel
theorem dX5_lookAhead_13 : decode cX5_lookAhead 13 = .ok (.if_icmp .ge 31, 3) := by decide +kernel
theorem dX5_lookAhead_16 : decode cX5_lookAhead 16 = .ok (.aload_n 0, 1) := by decide +kernel
theorem dX5_lookAhead_17 : decode cX5_lookAhead 17 = .ok (.getfield 36, 3) := by decide +kernel
theorem dX5_lookAhead_20 : decode cX5_lookAhead 20 = .ok (.iload_n 2, 1) := by decide +kernel
theorem dX5_lookAhead_21 : decode cX5_lookAhead 21 = .ok (.aload_n 0, 1) := by decide +kernel
theorem dX5_lookAhead_22 : decode cX5_lookAhead 22 = .ok (.getfield 12, 3) := by decide +kernel
theorem dX5_lookAhead_25 : decode cX5_lookAhead 25 = .ok (.aload_n 0, 1) := by decide +kernel
theorem dX5_lookAhead_26 : decode cX5_lookAhead 26 = .ok (.getfield 12, 3) := by decide +kernel
theorem dX5_lookAhead_29 : decode cX5_lookAhead 29 = .ok (.getfield 146, 3) := by decide +kernel
theorem dX5_lookAhead_32 : decode cX5_lookAhead 32 = .ok (.iload_n 2, 1) := by decide +kernel
theorem dX5_lookAhead_33 : decode cX5_lookAhead 33 = .ok (.iadd, 1) := by decide +kernel
theorem dX5_lookAhead_34 : decode cX5_lookAhead 34 = .ok (.invokevirtual 199, 3) := by decide +kernel
theorem dX5_lookAhead_37 : decode cX5_lookAhead 37 = .ok (.iastore, 1) := by decide +kernel
theorem dX5_lookAhead_38 : decode cX5_lookAhead 38 = .ok (.iinc 2 1, 3) := by decide +kernel
theorem dX5_lookAhead_41 : decode cX5_lookAhead 41 = .ok (.goto (-39), 3) := by decide +kernel
theorem dX5_lookAhead_44 : decode cX5_lookAhead 44 = .ok (.return_, 1) := by decide +kernel
theorem dX5_agreeAhead_0 : decode cX5_agreeAhead 0 = .ok (.iload_n 3, 1) := by decide +kernel
theorem dX5_agreeAhead_1 : decode cX5_agreeAhead 1 = .ok (.ifCond .lt 39, 3) := by decide +kernel
theorem dX5_agreeAhead_4 : decode cX5_agreeAhead 4 = .ok (.iload_n 3, 1) := by decide +kernel
theorem dX5_agreeAhead_5 : decode cX5_agreeAhead 5 = .ok (.aload_n 0, 1) := by decide +kernel
theorem dX5_agreeAhead_6 : decode cX5_agreeAhead 6 = .ok (.getfield 36, 3) := by decide +kernel
theorem dX5_agreeAhead_9 : decode cX5_agreeAhead 9 = .ok (.arraylength, 1) := by decide +kernel
theorem dX5_agreeAhead_10 : decode cX5_agreeAhead 10 = .ok (.if_icmp .ge 30, 3) := by decide +kernel
theorem dX5_agreeAhead_13 : decode cX5_agreeAhead 13 = .ok (.aload_n 0, 1) := by decide +kernel
theorem dX5_agreeAhead_14 : decode cX5_agreeAhead 14 = .ok (.getfield 36, 3) := by decide +kernel
theorem dX5_agreeAhead_17 : decode cX5_agreeAhead 17 = .ok (.iload_n 3, 1) := by decide +kernel
theorem dX5_agreeAhead_18 : decode cX5_agreeAhead 18 = .ok (.iaload, 1) := by decide +kernel
theorem dX5_agreeAhead_19 : decode cX5_agreeAhead 19 = .ok (.iload_n 1, 1) := by decide +kernel
theorem dX5_agreeAhead_20 : decode cX5_agreeAhead 20 = .ok (.invokestatic 291, 3) := by decide +kernel
theorem dX5_agreeAhead_23 : decode cX5_agreeAhead 23 = .ok (.aload_n 0, 1) := by decide +kernel
theorem dX5_agreeAhead_24 : decode cX5_agreeAhead 24 = .ok (.getfield 36, 3) := by decide +kernel
theorem dX5_agreeAhead_27 : decode cX5_agreeAhead 27 = .ok (.iload_n 3, 1) := by decide +kernel
theorem dX5_agreeAhead_28 : decode cX5_agreeAhead 28 = .ok (.iaload, 1) := by decide +kernel
theorem dX5_agreeAhead_29 : decode cX5_agreeAhead 29 = .ok (.iload_n 2, 1) := by decide +kernel
theorem dX5_agreeAhead_30 : decode cX5_agreeAhead 30 = .ok (.invokestatic 291, 3) := by decide +kernel
theorem dX5_agreeAhead_33 : decode cX5_agreeAhead 33 = .ok (.if_icmp .ne 7, 3) := by decide +kernel
theorem dX5_agreeAhead_36 : decode cX5_agreeAhead 36 = .ok (.iconst 1, 1) := by decide +kernel
theorem dX5_agreeAhead_37 : decode cX5_agreeAhead 37 = .ok (.goto 4, 3) := by decide +kernel
theorem dX5_agreeAhead_40 : decode cX5_agreeAhead 40 = .ok (.iconst 0, 1) := by decide +kernel
theorem dX5_agreeAhead_41 : decode cX5_agreeAhead 41 = .ok (.ireturn, 1) := by decide +kernel
theorem dX5_tryDays_0 : decode cX5_tryDays 0 = .ok (.aload_n 0, 1) := by decide +kernel
theorem dX5_tryDays_1 : decode cX5_tryDays 1 = .ok (.getfield 42, 3) := by decide +kernel
theorem dX5_tryDays_4 : decode cX5_tryDays 4 = .ok (.aload_n 1, 1) := by decide +kernel
theorem dX5_tryDays_5 : decode cX5_tryDays 5 = .ok (.invokevirtual 205, 3) := by decide +kernel
theorem dX5_tryDays_8 : decode cX5_tryDays 8 = .ok (.iconst 0, 1) := by decide +kernel
theorem dX5_tryDays_9 : decode cX5_tryDays 9 = .ok (.istore 5, 2) := by decide +kernel
theorem dX5_tryDays_11 : decode cX5_tryDays 11 = .ok (.iload 5, 2) := by decide +kernel
theorem dX5_tryDays_13 : decode cX5_tryDays 13 = .ok (.iload_n 2, 1) := by decide +kernel
theorem dX5_tryDays_14 : decode cX5_tryDays 14 = .ok (.if_icmp .ge 46, 3) := by decide +kernel
theorem dX5_tryDays_17 : decode cX5_tryDays 17 = .ok (.iload 5, 2) := by decide +kernel
theorem dX5_tryDays_19 : decode cX5_tryDays 19 = .ok (.aload_n 0, 1) := by decide +kernel
theorem dX5_tryDays_20 : decode cX5_tryDays 20 = .ok (.getfield 36, 3) := by decide +kernel
theorem dX5_tryDays_23 : decode cX5_tryDays 23 = .ok (.arraylength, 1) := by decide +kernel
theorem dX5_tryDays_24 : decode cX5_tryDays 24 = .ok (.if_icmp .ge 36, 3) := by decide +kernel
theorem dX5_tryDays_27 : decode cX5_tryDays 27 = .ok (.aload_n 0, 1) := by decide +kernel
theorem dX5_tryDays_28 : decode cX5_tryDays 28 = .ok (.getfield 42, 3) := by decide +kernel
theorem dX5_tryDays_31 : decode cX5_tryDays 31 = .ok (.getfield 128, 3) := by decide +kernel
theorem dX5_tryDays_34 : decode cX5_tryDays 34 = .ok (.ifCond .le 26, 3) := by decide +kernel
theorem dX5_tryDays_37 : decode cX5_tryDays 37 = .ok (.aload_n 0, 1) := by decide +kernel
theorem dX5_tryDays_38 : decode cX5_tryDays 38 = .ok (.getfield 42, 3) := by decide +kernel
theorem dX5_tryDays_41 : decode cX5_tryDays 41 = .ok (.aload_n 0, 1) := by decide +kernel
theorem dX5_tryDays_42 : decode cX5_tryDays 42 = .ok (.getfield 36, 3) := by decide +kernel
theorem dX5_tryDays_45 : decode cX5_tryDays 45 = .ok (.iload 5, 2) := by decide +kernel
theorem dX5_tryDays_47 : decode cX5_tryDays 47 = .ok (.iaload, 1) := by decide +kernel
theorem dX5_tryDays_48 : decode cX5_tryDays 48 = .ok (.iload_n 3, 1) := by decide +kernel
theorem dX5_tryDays_49 : decode cX5_tryDays 49 = .ok (.iload 4, 2) := by decide +kernel
theorem dX5_tryDays_51 : decode cX5_tryDays 51 = .ok (.invokevirtual 277, 3) := by decide +kernel
theorem dX5_tryDays_54 : decode cX5_tryDays 54 = .ok (.iinc 5 1, 3) := by decide +kernel
theorem dX5_tryDays_57 : decode cX5_tryDays 57 = .ok (.goto (-46), 3) := by decide +kernel
theorem dX5_tryDays_60 : decode cX5_tryDays 60 = .ok (.return_, 1) := by decide +kernel
theorem dX5_daysToWell_0 : decode cX5_daysToWell 0 = .ok (.aload_n 0, 1) := by decide +kernel
theorem dX5_daysToWell_1 : decode cX5_daysToWell 1 = .ok (.getfield 42, 3) := by decide +kernel
theorem dX5_daysToWell_4 : decode cX5_daysToWell 4 = .ok (.aload_n 1, 1) := by decide +kernel
theorem dX5_daysToWell_5 : decode cX5_daysToWell 5 = .ok (.invokevirtual 205, 3) := by decide +kernel
theorem dX5_daysToWell_8 : decode cX5_daysToWell 8 = .ok (.aload_n 0, 1) := by decide +kernel
theorem dX5_daysToWell_9 : decode cX5_daysToWell 9 = .ok (.getfield 42, 3) := by decide +kernel
theorem dX5_daysToWell_12 : decode cX5_daysToWell 12 = .ok (.iload_n 2, 1) := by decide +kernel
theorem dX5_daysToWell_13 : decode cX5_daysToWell 13 = .ok (.putfield 131, 3) := by decide +kernel
theorem dX5_daysToWell_16 : decode cX5_daysToWell 16 = .ok (.iconst 0, 1) := by decide +kernel
theorem dX5_daysToWell_17 : decode cX5_daysToWell 17 = .ok (.istore_n 3, 1) := by decide +kernel
theorem dX5_daysToWell_18 : decode cX5_daysToWell 18 = .ok (.iload_n 3, 1) := by decide +kernel
theorem dX5_daysToWell_19 : decode cX5_daysToWell 19 = .ok (.aload_n 0, 1) := by decide +kernel
theorem dX5_daysToWell_20 : decode cX5_daysToWell 20 = .ok (.getfield 36, 3) := by decide +kernel
theorem dX5_daysToWell_23 : decode cX5_daysToWell 23 = .ok (.arraylength, 1) := by decide +kernel
theorem dX5_daysToWell_24 : decode cX5_daysToWell 24 = .ok (.if_icmp .ge 48, 3) := by decide +kernel
theorem dX5_daysToWell_27 : decode cX5_daysToWell 27 = .ok (.aload_n 0, 1) := by decide +kernel
theorem dX5_daysToWell_28 : decode cX5_daysToWell 28 = .ok (.getfield 42, 3) := by decide +kernel
theorem dX5_daysToWell_31 : decode cX5_daysToWell 31 = .ok (.getfield 128, 3) := by decide +kernel
theorem dX5_daysToWell_34 : decode cX5_daysToWell 34 = .ok (.ifCond .ne 5, 3) := by decide +kernel
theorem dX5_daysToWell_37 : decode cX5_daysToWell 37 = .ok (.iload_n 3, 1) := by decide +kernel
theorem dX5_daysToWell_38 : decode cX5_daysToWell 38 = .ok (.ireturn, 1) := by decide +kernel
theorem dX5_daysToWell_39 : decode cX5_daysToWell 39 = .ok (.aload_n 0, 1) := by decide +kernel
theorem dX5_daysToWell_40 : decode cX5_daysToWell 40 = .ok (.getfield 42, 3) := by decide +kernel
theorem dX5_daysToWell_43 : decode cX5_daysToWell 43 = .ok (.aload_n 0, 1) := by decide +kernel
theorem dX5_daysToWell_44 : decode cX5_daysToWell 44 = .ok (.getfield 36, 3) := by decide +kernel
theorem dX5_daysToWell_47 : decode cX5_daysToWell 47 = .ok (.iload_n 3, 1) := by decide +kernel
theorem dX5_daysToWell_48 : decode cX5_daysToWell 48 = .ok (.iaload, 1) := by decide +kernel
theorem dX5_daysToWell_49 : decode cX5_daysToWell 49 = .ok (.aload_n 0, 1) := by decide +kernel
theorem dX5_daysToWell_50 : decode cX5_daysToWell 50 = .ok (.getfield 12, 3) := by decide +kernel
theorem dX5_daysToWell_53 : decode cX5_daysToWell 53 = .ok (.getfield 111, 3) := by decide +kernel
theorem dX5_daysToWell_56 : decode cX5_daysToWell 56 = .ok (.aload_n 0, 1) := by decide +kernel
theorem dX5_daysToWell_57 : decode cX5_daysToWell 57 = .ok (.getfield 12, 3) := by decide +kernel
theorem dX5_daysToWell_60 : decode cX5_daysToWell 60 = .ok (.getfield 108, 3) := by decide +kernel
theorem dX5_daysToWell_63 : decode cX5_daysToWell 63 = .ok (.invokevirtual 277, 3) := by decide +kernel
theorem dX5_daysToWell_66 : decode cX5_daysToWell 66 = .ok (.iinc 3 1, 3) := by decide +kernel
theorem dX5_daysToWell_69 : decode cX5_daysToWell 69 = .ok (.goto (-51), 3) := by decide +kernel
theorem dX5_daysToWell_72 : decode cX5_daysToWell 72 = .ok (.aload_n 0, 1) := by decide +kernel
theorem dX5_daysToWell_73 : decode cX5_daysToWell 73 = .ok (.getfield 42, 3) := by decide +kernel
theorem dX5_daysToWell_76 : decode cX5_daysToWell 76 = .ok (.getfield 128, 3) := by decide +kernel
theorem dX5_daysToWell_79 : decode cX5_daysToWell 79 = .ok (.ifCond .ne 9, 3) := by decide +kernel
theorem dX5_daysToWell_82 : decode cX5_daysToWell 82 = .ok (.sipush 400, 3) := by decide +kernel
theorem dX5_daysToWell_85 : decode cX5_daysToWell 85 = .ok (.goto 6, 3) := by decide +kernel
theorem dX5_daysToWell_88 : decode cX5_daysToWell 88 = .ok (.sipush 401, 3) := by decide +kernel
theorem dX5_daysToWell_91 : decode cX5_daysToWell 91 = .ok (.ireturn, 1) := by decide +kernel
theorem dX5_illOfAllAhead_0 : decode cX5_illOfAllAhead 0 = .ok (.iconst 0, 1) := by decide +kernel
theorem dX5_illOfAllAhead_1 : decode cX5_illOfAllAhead 1 = .ok (.istore_n 3, 1) := by decide +kernel
theorem dX5_illOfAllAhead_2 : decode cX5_illOfAllAhead 2 = .ok (.iconst 0, 1) := by decide +kernel
theorem dX5_illOfAllAhead_3 : decode cX5_illOfAllAhead 3 = .ok (.istore 4, 2) := by decide +kernel
theorem dX5_illOfAllAhead_5 : decode cX5_illOfAllAhead 5 = .ok (.iload 4, 2) := by decide +kernel
theorem dX5_illOfAllAhead_7 : decode cX5_illOfAllAhead 7 = .ok (.aload_n 0, 1) := by decide +kernel
theorem dX5_illOfAllAhead_8 : decode cX5_illOfAllAhead 8 = .ok (.getfield 12, 3) := by decide +kernel
theorem dX5_illOfAllAhead_11 : decode cX5_illOfAllAhead 11 = .ok (.getfield 117, 3) := by decide +kernel
theorem dX5_illOfAllAhead_14 : decode cX5_illOfAllAhead 14 = .ok (.if_icmp .ge 50, 3) := by decide +kernel
theorem dX5_illOfAllAhead_17 : decode cX5_illOfAllAhead 17 = .ok (.aload_n 0, 1) := by decide +kernel
theorem dX5_illOfAllAhead_18 : decode cX5_illOfAllAhead 18 = .ok (.getfield 12, 3) := by decide +kernel
theorem dX5_illOfAllAhead_21 : decode cX5_illOfAllAhead 21 = .ok (.iload 4, 2) := by decide +kernel
theorem dX5_illOfAllAhead_23 : decode cX5_illOfAllAhead 23 = .ok (.invokevirtual 124, 3) := by decide +kernel
theorem dX5_illOfAllAhead_26 : decode cX5_illOfAllAhead 26 = .ok (.astore 5, 2) := by decide +kernel
theorem dX5_illOfAllAhead_28 : decode cX5_illOfAllAhead 28 = .ok (.aload 5, 2) := by decide +kernel
theorem dX5_illOfAllAhead_30 : decode cX5_illOfAllAhead 30 = .ok (.ifnull 28, 3) := by decide +kernel
theorem dX5_illOfAllAhead_33 : decode cX5_illOfAllAhead 33 = .ok (.aload_n 0, 1) := by decide +kernel
theorem dX5_illOfAllAhead_34 : decode cX5_illOfAllAhead 34 = .ok (.aload 5, 2) := by decide +kernel
theorem dX5_illOfAllAhead_36 : decode cX5_illOfAllAhead 36 = .ok (.iload_n 1, 1) := by decide +kernel
theorem dX5_illOfAllAhead_37 : decode cX5_illOfAllAhead 37 = .ok (.iload_n 2, 1) := by decide +kernel
theorem dX5_illOfAllAhead_38 : decode cX5_illOfAllAhead 38 = .ok (.aload_n 0, 1) := by decide +kernel
theorem dX5_illOfAllAhead_39 : decode cX5_illOfAllAhead 39 = .ok (.getfield 12, 3) := by decide +kernel
theorem dX5_illOfAllAhead_42 : decode cX5_illOfAllAhead 42 = .ok (.getfield 108, 3) := by decide +kernel
theorem dX5_illOfAllAhead_45 : decode cX5_illOfAllAhead 45 = .ok (.invokevirtual 179, 3) := by decide +kernel
theorem dX5_illOfAllAhead_48 : decode cX5_illOfAllAhead 48 = .ok (.iload_n 3, 1) := by decide +kernel
theorem dX5_illOfAllAhead_49 : decode cX5_illOfAllAhead 49 = .ok (.aload_n 0, 1) := by decide +kernel
theorem dX5_illOfAllAhead_50 : decode cX5_illOfAllAhead 50 = .ok (.getfield 42, 3) := by decide +kernel
theorem dX5_illOfAllAhead_53 : decode cX5_illOfAllAhead 53 = .ok (.getfield 128, 3) := by decide +kernel
theorem dX5_illOfAllAhead_56 : decode cX5_illOfAllAhead 56 = .ok (.iadd, 1) := by decide +kernel
theorem dX5_illOfAllAhead_57 : decode cX5_illOfAllAhead 57 = .ok (.istore_n 3, 1) := by decide +kernel
theorem dX5_illOfAllAhead_58 : decode cX5_illOfAllAhead 58 = .ok (.iinc 4 1, 3) := by decide +kernel
theorem dX5_illOfAllAhead_61 : decode cX5_illOfAllAhead 61 = .ok (.goto (-56), 3) := by decide +kernel
theorem dX5_illOfAllAhead_64 : decode cX5_illOfAllAhead 64 = .ok (.iload_n 3, 1) := by decide +kernel
theorem dX5_illOfAllAhead_65 : decode cX5_illOfAllAhead 65 = .ok (.ireturn, 1) := by decide +kernel
theorem dX5_wellAhead_0 : decode cX5_wellAhead 0 = .ok (.iconst 0, 1) := by decide +kernel
theorem dX5_wellAhead_1 : decode cX5_wellAhead 1 = .ok (.istore_n 3, 1) := by decide +kernel
theorem dX5_wellAhead_2 : decode cX5_wellAhead 2 = .ok (.iconst 0, 1) := by decide +kernel
theorem dX5_wellAhead_3 : decode cX5_wellAhead 3 = .ok (.istore 4, 2) := by decide +kernel
theorem dX5_wellAhead_5 : decode cX5_wellAhead 5 = .ok (.iload 4, 2) := by decide +kernel
theorem dX5_wellAhead_7 : decode cX5_wellAhead 7 = .ok (.aload_n 0, 1) := by decide +kernel
theorem dX5_wellAhead_8 : decode cX5_wellAhead 8 = .ok (.getfield 12, 3) := by decide +kernel
theorem dX5_wellAhead_11 : decode cX5_wellAhead 11 = .ok (.getfield 117, 3) := by decide +kernel
theorem dX5_wellAhead_14 : decode cX5_wellAhead 14 = .ok (.if_icmp .ge 58, 3) := by decide +kernel
theorem dX5_wellAhead_17 : decode cX5_wellAhead 17 = .ok (.aload_n 0, 1) := by decide +kernel
theorem dX5_wellAhead_18 : decode cX5_wellAhead 18 = .ok (.getfield 12, 3) := by decide +kernel
theorem dX5_wellAhead_21 : decode cX5_wellAhead 21 = .ok (.iload 4, 2) := by decide +kernel
theorem dX5_wellAhead_23 : decode cX5_wellAhead 23 = .ok (.invokevirtual 124, 3) := by decide +kernel
theorem dX5_wellAhead_26 : decode cX5_wellAhead 26 = .ok (.astore 5, 2) := by decide +kernel
theorem dX5_wellAhead_28 : decode cX5_wellAhead 28 = .ok (.aload 5, 2) := by decide +kernel
theorem dX5_wellAhead_30 : decode cX5_wellAhead 30 = .ok (.ifnull 36, 3) := by decide +kernel
theorem dX5_wellAhead_33 : decode cX5_wellAhead 33 = .ok (.aload_n 0, 1) := by decide +kernel
theorem dX5_wellAhead_34 : decode cX5_wellAhead 34 = .ok (.aload 5, 2) := by decide +kernel
theorem dX5_wellAhead_36 : decode cX5_wellAhead 36 = .ok (.iload_n 1, 1) := by decide +kernel
theorem dX5_wellAhead_37 : decode cX5_wellAhead 37 = .ok (.aload_n 0, 1) := by decide +kernel
theorem dX5_wellAhead_38 : decode cX5_wellAhead 38 = .ok (.getfield 12, 3) := by decide +kernel
theorem dX5_wellAhead_41 : decode cX5_wellAhead 41 = .ok (.getfield 111, 3) := by decide +kernel
theorem dX5_wellAhead_44 : decode cX5_wellAhead 44 = .ok (.iload_n 2, 1) := by decide +kernel
theorem dX5_wellAhead_45 : decode cX5_wellAhead 45 = .ok (.invokevirtual 179, 3) := by decide +kernel
theorem dX5_wellAhead_48 : decode cX5_wellAhead 48 = .ok (.iload_n 3, 1) := by decide +kernel
theorem dX5_wellAhead_49 : decode cX5_wellAhead 49 = .ok (.aload_n 0, 1) := by decide +kernel
theorem dX5_wellAhead_50 : decode cX5_wellAhead 50 = .ok (.getfield 42, 3) := by decide +kernel
theorem dX5_wellAhead_53 : decode cX5_wellAhead 53 = .ok (.getfield 128, 3) := by decide +kernel
theorem dX5_wellAhead_56 : decode cX5_wellAhead 56 = .ok (.ifCond .ne 7, 3) := by decide +kernel
theorem dX5_wellAhead_59 : decode cX5_wellAhead 59 = .ok (.iconst 1, 1) := by decide +kernel
theorem dX5_wellAhead_60 : decode cX5_wellAhead 60 = .ok (.goto 4, 3) := by decide +kernel
theorem dX5_wellAhead_63 : decode cX5_wellAhead 63 = .ok (.iconst 0, 1) := by decide +kernel
theorem dX5_wellAhead_64 : decode cX5_wellAhead 64 = .ok (.iadd, 1) := by decide +kernel
theorem dX5_wellAhead_65 : decode cX5_wellAhead 65 = .ok (.istore_n 3, 1) := by decide +kernel
theorem dX5_wellAhead_66 : decode cX5_wellAhead 66 = .ok (.iinc 4 1, 3) := by decide +kernel
theorem dX5_wellAhead_69 : decode cX5_wellAhead 69 = .ok (.goto (-64), 3) := by decide +kernel
theorem dX5_wellAhead_72 : decode cX5_wellAhead 72 = .ok (.iload_n 3, 1) := by decide +kernel
theorem dX5_wellAhead_73 : decode cX5_wellAhead 73 = .ok (.ireturn, 1) := by decide +kernel
theorem dX5_bestValue_0 : decode cX5_bestValue 0 = .ok (.aload_n 0, 1) := by decide +kernel
theorem dX5_bestValue_1 : decode cX5_bestValue 1 = .ok (.getfield 12, 3) := by decide +kernel
theorem dX5_bestValue_4 : decode cX5_bestValue 4 = .ok (.iload_n 1, 1) := by decide +kernel
theorem dX5_bestValue_5 : decode cX5_bestValue 5 = .ok (.invokevirtual 72, 3) := by decide +kernel
theorem dX5_bestValue_8 : decode cX5_bestValue 8 = .ok (.astore 5, 2) := by decide +kernel
theorem dX5_bestValue_10 : decode cX5_bestValue 10 = .ok (.aload 5, 2) := by decide +kernel
theorem dX5_bestValue_12 : decode cX5_bestValue 12 = .ok (.ifnull 13, 3) := by decide +kernel
theorem dX5_bestValue_15 : decode cX5_bestValue 15 = .ok (.iload_n 3, 1) := by decide +kernel
theorem dX5_bestValue_16 : decode cX5_bestValue 16 = .ok (.iconst 1, 1) := by decide +kernel
theorem dX5_bestValue_17 : decode cX5_bestValue 17 = .ok (.iload 4, 2) := by decide +kernel
theorem dX5_bestValue_19 : decode cX5_bestValue 19 = .ok (.invokestatic 92, 3) := by decide +kernel
theorem dX5_bestValue_22 : decode cX5_bestValue 22 = .ok (.ifCond .ne 10, 3) := by decide +kernel
theorem dX5_bestValue_25 : decode cX5_bestValue 25 = .ok (.aload_n 0, 1) := by decide +kernel
theorem dX5_bestValue_26 : decode cX5_bestValue 26 = .ok (.ldc 58, 2) := by decide +kernel
theorem dX5_bestValue_28 : decode cX5_bestValue 28 = .ok (.invokevirtual 59, 3) := by decide +kernel
theorem dX5_bestValue_31 : decode cX5_bestValue 31 = .ok (.ireturn, 1) := by decide +kernel
theorem dX5_bestValue_32 : decode cX5_bestValue 32 = .ok (.aload_n 0, 1) := by decide +kernel
theorem dX5_bestValue_33 : decode cX5_bestValue 33 = .ok (.getfield 12, 3) := by decide +kernel
theorem dX5_bestValue_36 : decode cX5_bestValue 36 = .ok (.aload_n 0, 1) := by decide +kernel
theorem dX5_bestValue_37 : decode cX5_bestValue 37 = .ok (.getfield 12, 3) := by decide +kernel
theorem dX5_bestValue_40 : decode cX5_bestValue 40 = .ok (.getfield 111, 3) := by decide +kernel
theorem dX5_bestValue_43 : decode cX5_bestValue 43 = .ok (.invokevirtual 72, 3) := by decide +kernel
theorem dX5_bestValue_46 : decode cX5_bestValue 46 = .ok (.ifnonnull 10, 3) := by decide +kernel
theorem dX5_bestValue_49 : decode cX5_bestValue 49 = .ok (.aload_n 0, 1) := by decide +kernel
theorem dX5_bestValue_50 : decode cX5_bestValue 50 = .ok (.ldc 141, 2) := by decide +kernel
theorem dX5_bestValue_52 : decode cX5_bestValue 52 = .ok (.invokevirtual 59, 3) := by decide +kernel
theorem dX5_bestValue_55 : decode cX5_bestValue 55 = .ok (.ireturn, 1) := by decide +kernel
theorem dX5_bestValue_56 : decode cX5_bestValue 56 = .ok (.iload_n 2, 1) := by decide +kernel
theorem dX5_bestValue_57 : decode cX5_bestValue 57 = .ok (.invokestatic 294, 3) := by decide +kernel
theorem dX5_bestValue_60 : decode cX5_bestValue 60 = .ok (.istore 6, 2) := by decide +kernel
theorem dX5_bestValue_62 : decode cX5_bestValue 62 = .ok (.iload_n 1, 1) := by decide +kernel
theorem dX5_bestValue_63 : decode cX5_bestValue 63 = .ok (.aload_n 0, 1) := by decide +kernel
theorem dX5_bestValue_64 : decode cX5_bestValue 64 = .ok (.getfield 12, 3) := by decide +kernel
theorem dX5_bestValue_67 : decode cX5_bestValue 67 = .ok (.getfield 111, 3) := by decide +kernel
theorem dX5_bestValue_70 : decode cX5_bestValue 70 = .ok (.if_icmp .ne 6, 3) := by decide +kernel
theorem dX5_bestValue_73 : decode cX5_bestValue 73 = .ok (.iload 6, 2) := by decide +kernel
theorem dX5_bestValue_75 : decode cX5_bestValue 75 = .ok (.ireturn, 1) := by decide +kernel
theorem dX5_bestValue_76 : decode cX5_bestValue 76 = .ok (.aload_n 0, 1) := by decide +kernel
theorem dX5_bestValue_77 : decode cX5_bestValue 77 = .ok (.iload_n 3, 1) := by decide +kernel
theorem dX5_bestValue_78 : decode cX5_bestValue 78 = .ok (.invokevirtual 176, 3) := by decide +kernel
theorem dX5_bestValue_81 : decode cX5_bestValue 81 = .ok (.aload_n 0, 1) := by decide +kernel
theorem dX5_bestValue_82 : decode cX5_bestValue 82 = .ok (.getfield 49, 3) := by decide +kernel
theorem dX5_bestValue_85 : decode cX5_bestValue 85 = .ok (.aload 5, 2) := by decide +kernel
theorem dX5_bestValue_87 : decode cX5_bestValue 87 = .ok (.invokevirtual 297, 3) := by decide +kernel
theorem dX5_bestValue_90 : decode cX5_bestValue 90 = .ok (.iconst (-1), 1) := by decide +kernel
theorem dX5_bestValue_91 : decode cX5_bestValue 91 = .ok (.istore 7, 2) := by decide +kernel
theorem dX5_bestValue_93 : decode cX5_bestValue 93 = .ok (.iload_n 2, 1) := by decide +kernel
theorem dX5_bestValue_94 : decode cX5_bestValue 94 = .ok (.invokestatic 300, 3) := by decide +kernel
theorem dX5_bestValue_97 : decode cX5_bestValue 97 = .ok (.istore 8, 2) := by decide +kernel
theorem dX5_bestValue_99 : decode cX5_bestValue 99 = .ok (.iload 6, 2) := by decide +kernel
theorem dX5_bestValue_101 : decode cX5_bestValue 101 = .ok (.istore 9, 2) := by decide +kernel
theorem dX5_bestValue_103 : decode cX5_bestValue 103 = .ok (.iload 9, 2) := by decide +kernel
theorem dX5_bestValue_105 : decode cX5_bestValue 105 = .ok (.iload 8, 2) := by decide +kernel
theorem dX5_bestValue_107 : decode cX5_bestValue 107 = .ok (.if_icmp .gt 42, 3) := by decide +kernel
theorem dX5_bestValue_110 : decode cX5_bestValue 110 = .ok (.aload_n 0, 1) := by decide +kernel
theorem dX5_bestValue_111 : decode cX5_bestValue 111 = .ok (.getfield 49, 3) := by decide +kernel
theorem dX5_bestValue_114 : decode cX5_bestValue 114 = .ok (.iload_n 2, 1) := by decide +kernel
theorem dX5_bestValue_115 : decode cX5_bestValue 115 = .ok (.iload 9, 2) := by decide +kernel
theorem dX5_bestValue_117 : decode cX5_bestValue 117 = .ok (.invokevirtual 83, 3) := by decide +kernel
theorem dX5_bestValue_120 : decode cX5_bestValue 120 = .ok (.pop, 1) := by decide +kernel
theorem dX5_bestValue_121 : decode cX5_bestValue 121 = .ok (.aload_n 0, 1) := by decide +kernel
theorem dX5_bestValue_122 : decode cX5_bestValue 122 = .ok (.iload_n 3, 1) := by decide +kernel
theorem dX5_bestValue_123 : decode cX5_bestValue 123 = .ok (.invokevirtual 303, 3) := by decide +kernel
theorem dX5_bestValue_126 : decode cX5_bestValue 126 = .ok (.istore 10, 2) := by decide +kernel
theorem dX5_bestValue_128 : decode cX5_bestValue 128 = .ok (.iload 10, 2) := by decide +kernel
theorem dX5_bestValue_130 : decode cX5_bestValue 130 = .ok (.iload 7, 2) := by decide +kernel
theorem dX5_bestValue_132 : decode cX5_bestValue 132 = .ok (.if_icmp .le 11, 3) := by decide +kernel
theorem dX5_bestValue_135 : decode cX5_bestValue 135 = .ok (.iload 10, 2) := by decide +kernel
theorem dX5_bestValue_137 : decode cX5_bestValue 137 = .ok (.istore 7, 2) := by decide +kernel
theorem dX5_bestValue_139 : decode cX5_bestValue 139 = .ok (.iload 9, 2) := by decide +kernel
theorem dX5_bestValue_141 : decode cX5_bestValue 141 = .ok (.istore 6, 2) := by decide +kernel
theorem dX5_bestValue_143 : decode cX5_bestValue 143 = .ok (.iinc 9 1, 3) := by decide +kernel
theorem dX5_bestValue_146 : decode cX5_bestValue 146 = .ok (.goto (-43), 3) := by decide +kernel
theorem dX5_bestValue_149 : decode cX5_bestValue 149 = .ok (.iload 6, 2) := by decide +kernel
theorem dX5_bestValue_151 : decode cX5_bestValue 151 = .ok (.ireturn, 1) := by decide +kernel
theorem dX5_agreementsOfTried_0 : decode cX5_agreementsOfTried 0 = .ok (.iconst 0, 1) := by decide +kernel
theorem dX5_agreementsOfTried_1 : decode cX5_agreementsOfTried 1 = .ok (.istore_n 2, 1) := by decide +kernel
theorem dX5_agreementsOfTried_2 : decode cX5_agreementsOfTried 2 = .ok (.iconst 0, 1) := by decide +kernel
theorem dX5_agreementsOfTried_3 : decode cX5_agreementsOfTried 3 = .ok (.istore_n 3, 1) := by decide +kernel
theorem dX5_agreementsOfTried_4 : decode cX5_agreementsOfTried 4 = .ok (.iload_n 3, 1) := by decide +kernel
theorem dX5_agreementsOfTried_5 : decode cX5_agreementsOfTried 5 = .ok (.iload_n 1, 1) := by decide +kernel
theorem dX5_agreementsOfTried_6 : decode cX5_agreementsOfTried 6 = .ok (.if_icmp .ge 56, 3) := by decide +kernel
theorem dX5_agreementsOfTried_9 : decode cX5_agreementsOfTried 9 = .ok (.iload_n 3, 1) := by decide +kernel
theorem dX5_agreementsOfTried_10 : decode cX5_agreementsOfTried 10 = .ok (.aload_n 0, 1) := by decide +kernel
theorem dX5_agreementsOfTried_11 : decode cX5_agreementsOfTried 11 = .ok (.getfield 36, 3) := by decide +kernel
theorem dX5_agreementsOfTried_14 : decode cX5_agreementsOfTried 14 = .ok (.arraylength, 1) := by decide +kernel
theorem dX5_agreementsOfTried_15 : decode cX5_agreementsOfTried 15 = .ok (.if_icmp .ge 47, 3) := by decide +kernel
theorem dX5_agreementsOfTried_18 : decode cX5_agreementsOfTried 18 = .ok (.aload_n 0, 1) := by decide +kernel
theorem dX5_agreementsOfTried_19 : decode cX5_agreementsOfTried 19 = .ok (.getfield 49, 3) := by decide +kernel
theorem dX5_agreementsOfTried_22 : decode cX5_agreementsOfTried 22 = .ok (.aload_n 0, 1) := by decide +kernel
theorem dX5_agreementsOfTried_23 : decode cX5_agreementsOfTried 23 = .ok (.getfield 12, 3) := by decide +kernel
theorem dX5_agreementsOfTried_26 : decode cX5_agreementsOfTried 26 = .ok (.getfield 146, 3) := by decide +kernel
theorem dX5_agreementsOfTried_29 : decode cX5_agreementsOfTried 29 = .ok (.iload_n 3, 1) := by decide +kernel
theorem dX5_agreementsOfTried_30 : decode cX5_agreementsOfTried 30 = .ok (.iadd, 1) := by decide +kernel
theorem dX5_agreementsOfTried_31 : decode cX5_agreementsOfTried 31 = .ok (.invokevirtual 102, 3) := by decide +kernel
theorem dX5_agreementsOfTried_34 : decode cX5_agreementsOfTried 34 = .ok (.aload_n 0, 1) := by decide +kernel
theorem dX5_agreementsOfTried_35 : decode cX5_agreementsOfTried 35 = .ok (.getfield 36, 3) := by decide +kernel
theorem dX5_agreementsOfTried_38 : decode cX5_agreementsOfTried 38 = .ok (.iload_n 3, 1) := by decide +kernel
theorem dX5_agreementsOfTried_39 : decode cX5_agreementsOfTried 39 = .ok (.iaload, 1) := by decide +kernel
theorem dX5_agreementsOfTried_40 : decode cX5_agreementsOfTried 40 = .ok (.aload_n 0, 1) := by decide +kernel
theorem dX5_agreementsOfTried_41 : decode cX5_agreementsOfTried 41 = .ok (.getfield 12, 3) := by decide +kernel
theorem dX5_agreementsOfTried_44 : decode cX5_agreementsOfTried 44 = .ok (.getfield 111, 3) := by decide +kernel
theorem dX5_agreementsOfTried_47 : decode cX5_agreementsOfTried 47 = .ok (.invokestatic 291, 3) := by decide +kernel
theorem dX5_agreementsOfTried_50 : decode cX5_agreementsOfTried 50 = .ok (.if_icmp .ne 6, 3) := by decide +kernel
theorem dX5_agreementsOfTried_53 : decode cX5_agreementsOfTried 53 = .ok (.iinc 2 1, 3) := by decide +kernel
theorem dX5_agreementsOfTried_56 : decode cX5_agreementsOfTried 56 = .ok (.iinc 3 1, 3) := by decide +kernel
theorem dX5_agreementsOfTried_59 : decode cX5_agreementsOfTried 59 = .ok (.goto (-55), 3) := by decide +kernel
theorem dX5_agreementsOfTried_62 : decode cX5_agreementsOfTried 62 = .ok (.iload_n 2, 1) := by decide +kernel
theorem dX5_agreementsOfTried_63 : decode cX5_agreementsOfTried 63 = .ok (.ireturn, 1) := by decide +kernel
theorem dX5_makesJustSo_0 : decode cX5_makesJustSo 0 = .ok (.aload_n 0, 1) := by decide +kernel
theorem dX5_makesJustSo_1 : decode cX5_makesJustSo 1 = .ok (.getfield 42, 3) := by decide +kernel
theorem dX5_makesJustSo_4 : decode cX5_makesJustSo 4 = .ok (.aload_n 2, 1) := by decide +kernel
theorem dX5_makesJustSo_5 : decode cX5_makesJustSo 5 = .ok (.invokevirtual 205, 3) := by decide +kernel
theorem dX5_makesJustSo_8 : decode cX5_makesJustSo 8 = .ok (.aload_n 0, 1) := by decide +kernel
theorem dX5_makesJustSo_9 : decode cX5_makesJustSo 9 = .ok (.getfield 42, 3) := by decide +kernel
theorem dX5_makesJustSo_12 : decode cX5_makesJustSo 12 = .ok (.iload 4, 2) := by decide +kernel
theorem dX5_makesJustSo_14 : decode cX5_makesJustSo 14 = .ok (.putfield 131, 3) := by decide +kernel
theorem dX5_makesJustSo_17 : decode cX5_makesJustSo 17 = .ok (.iconst 0, 1) := by decide +kernel
theorem dX5_makesJustSo_18 : decode cX5_makesJustSo 18 = .ok (.istore 5, 2) := by decide +kernel
theorem dX5_makesJustSo_20 : decode cX5_makesJustSo 20 = .ok (.iload 5, 2) := by decide +kernel
theorem dX5_makesJustSo_22 : decode cX5_makesJustSo 22 = .ok (.aload_n 1, 1) := by decide +kernel
theorem dX5_makesJustSo_23 : decode cX5_makesJustSo 23 = .ok (.getfield 243, 3) := by decide +kernel
theorem dX5_makesJustSo_26 : decode cX5_makesJustSo 26 = .ok (.if_icmp .ge 61, 3) := by decide +kernel
theorem dX5_makesJustSo_29 : decode cX5_makesJustSo 29 = .ok (.iload 5, 2) := by decide +kernel
theorem dX5_makesJustSo_31 : decode cX5_makesJustSo 31 = .ok (.aload_n 0, 1) := by decide +kernel
theorem dX5_makesJustSo_32 : decode cX5_makesJustSo 32 = .ok (.getfield 36, 3) := by decide +kernel
theorem dX5_makesJustSo_35 : decode cX5_makesJustSo 35 = .ok (.arraylength, 1) := by decide +kernel
theorem dX5_makesJustSo_36 : decode cX5_makesJustSo 36 = .ok (.if_icmp .ge 51, 3) := by decide +kernel
theorem dX5_makesJustSo_39 : decode cX5_makesJustSo 39 = .ok (.aload_n 1, 1) := by decide +kernel
theorem dX5_makesJustSo_40 : decode cX5_makesJustSo 40 = .ok (.iload 5, 2) := by decide +kernel
theorem dX5_makesJustSo_42 : decode cX5_makesJustSo 42 = .ok (.invokevirtual 251, 3) := by decide +kernel
theorem dX5_makesJustSo_45 : decode cX5_makesJustSo 45 = .ok (.aload_n 0, 1) := by decide +kernel
theorem dX5_makesJustSo_46 : decode cX5_makesJustSo 46 = .ok (.getfield 42, 3) := by decide +kernel
theorem dX5_makesJustSo_49 : decode cX5_makesJustSo 49 = .ok (.getfield 128, 3) := by decide +kernel
theorem dX5_makesJustSo_52 : decode cX5_makesJustSo 52 = .ok (.i2l, 1) := by decide +kernel
theorem dX5_makesJustSo_53 : decode cX5_makesJustSo 53 = .ok (.lcmp, 1) := by decide +kernel
theorem dX5_makesJustSo_54 : decode cX5_makesJustSo 54 = .ok (.ifCond .eq 5, 3) := by decide +kernel
theorem dX5_makesJustSo_57 : decode cX5_makesJustSo 57 = .ok (.iconst 0, 1) := by decide +kernel
theorem dX5_makesJustSo_58 : decode cX5_makesJustSo 58 = .ok (.ireturn, 1) := by decide +kernel
theorem dX5_makesJustSo_59 : decode cX5_makesJustSo 59 = .ok (.aload_n 0, 1) := by decide +kernel
theorem dX5_makesJustSo_60 : decode cX5_makesJustSo 60 = .ok (.getfield 42, 3) := by decide +kernel
theorem dX5_makesJustSo_63 : decode cX5_makesJustSo 63 = .ok (.aload_n 0, 1) := by decide +kernel
theorem dX5_makesJustSo_64 : decode cX5_makesJustSo 64 = .ok (.getfield 36, 3) := by decide +kernel
theorem dX5_makesJustSo_67 : decode cX5_makesJustSo 67 = .ok (.iload 5, 2) := by decide +kernel
theorem dX5_makesJustSo_69 : decode cX5_makesJustSo 69 = .ok (.iaload, 1) := by decide +kernel
theorem dX5_makesJustSo_70 : decode cX5_makesJustSo 70 = .ok (.iload_n 3, 1) := by decide +kernel
theorem dX5_makesJustSo_71 : decode cX5_makesJustSo 71 = .ok (.aload_n 0, 1) := by decide +kernel
theorem dX5_makesJustSo_72 : decode cX5_makesJustSo 72 = .ok (.getfield 12, 3) := by decide +kernel
theorem dX5_makesJustSo_75 : decode cX5_makesJustSo 75 = .ok (.getfield 108, 3) := by decide +kernel
theorem dX5_makesJustSo_78 : decode cX5_makesJustSo 78 = .ok (.invokevirtual 277, 3) := by decide +kernel
theorem dX5_makesJustSo_81 : decode cX5_makesJustSo 81 = .ok (.iinc 5 1, 3) := by decide +kernel
theorem dX5_makesJustSo_84 : decode cX5_makesJustSo 84 = .ok (.goto (-64), 3) := by decide +kernel
theorem dX5_makesJustSo_87 : decode cX5_makesJustSo 87 = .ok (.iconst 1, 1) := by decide +kernel
theorem dX5_makesJustSo_88 : decode cX5_makesJustSo 88 = .ok (.ireturn, 1) := by decide +kernel
theorem dX5_within_0 : decode cX5_within 0 = .ok (.iload_n 0, 1) := by decide +kernel
theorem dX5_within_1 : decode cX5_within 1 = .ok (.iload_n 1, 1) := by decide +kernel
theorem dX5_within_2 : decode cX5_within 2 = .ok (.if_icmp .lt 12, 3) := by decide +kernel
theorem dX5_within_5 : decode cX5_within 5 = .ok (.iload_n 0, 1) := by decide +kernel
theorem dX5_within_6 : decode cX5_within 6 = .ok (.iload_n 2, 1) := by decide +kernel
theorem dX5_within_7 : decode cX5_within 7 = .ok (.if_icmp .gt 7, 3) := by decide +kernel
theorem dX5_within_10 : decode cX5_within 10 = .ok (.iconst 1, 1) := by decide +kernel
theorem dX5_within_11 : decode cX5_within 11 = .ok (.goto 4, 3) := by decide +kernel
theorem dX5_within_14 : decode cX5_within 14 = .ok (.iconst 0, 1) := by decide +kernel
theorem dX5_within_15 : decode cX5_within 15 = .ok (.ireturn, 1) := by decide +kernel
theorem dX5_isIn_0 : decode cX5_isIn 0 = .ok (.iload_n 1, 1) := by decide +kernel
theorem dX5_isIn_1 : decode cX5_isIn 1 = .ok (.ifCond .lt 22, 3) := by decide +kernel
theorem dX5_isIn_4 : decode cX5_isIn 4 = .ok (.iload_n 1, 1) := by decide +kernel
theorem dX5_isIn_5 : decode cX5_isIn 5 = .ok (.bipush 6, 2) := by decide +kernel
theorem dX5_isIn_7 : decode cX5_isIn 7 = .ok (.if_icmp .ge 16, 3) := by decide +kernel
theorem dX5_isIn_10 : decode cX5_isIn 10 = .ok (.iload_n 0, 1) := by decide +kernel
theorem dX5_isIn_11 : decode cX5_isIn 11 = .ok (.iload_n 1, 1) := by decide +kernel
theorem dX5_isIn_12 : decode cX5_isIn 12 = .ok (.ishr, 1) := by decide +kernel
theorem dX5_isIn_13 : decode cX5_isIn 13 = .ok (.iconst 1, 1) := by decide +kernel
theorem dX5_isIn_14 : decode cX5_isIn 14 = .ok (.iand, 1) := by decide +kernel
theorem dX5_isIn_15 : decode cX5_isIn 15 = .ok (.iconst 1, 1) := by decide +kernel
theorem dX5_isIn_16 : decode cX5_isIn 16 = .ok (.if_icmp .ne 7, 3) := by decide +kernel
theorem dX5_isIn_19 : decode cX5_isIn 19 = .ok (.iconst 1, 1) := by decide +kernel
theorem dX5_isIn_20 : decode cX5_isIn 20 = .ok (.goto 4, 3) := by decide +kernel
theorem dX5_isIn_23 : decode cX5_isIn 23 = .ok (.iconst 0, 1) := by decide +kernel
theorem dX5_isIn_24 : decode cX5_isIn 24 = .ok (.ireturn, 1) := by decide +kernel
theorem dJ6_bitCount_0f7a4_0 : decode cJ6_bitCount_0f7a4 0 = .ok (.iload_n 0, 1) := by decide +kernel
theorem dJ6_bitCount_0f7a4_1 : decode cJ6_bitCount_0f7a4 1 = .ok (.iload_n 0, 1) := by decide +kernel
theorem dJ6_bitCount_0f7a4_2 : decode cJ6_bitCount_0f7a4 2 = .ok (.iconst 1, 1) := by decide +kernel
theorem dJ6_bitCount_0f7a4_3 : decode cJ6_bitCount_0f7a4 3 = .ok (.iushr, 1) := by decide +kernel
theorem dJ6_bitCount_0f7a4_4 : decode cJ6_bitCount_0f7a4 4 = .ok (.ldc_w 265, 3) := by decide +kernel
theorem dJ6_bitCount_0f7a4_7 : decode cJ6_bitCount_0f7a4 7 = .ok (.iand, 1) := by decide +kernel
theorem dJ6_bitCount_0f7a4_8 : decode cJ6_bitCount_0f7a4 8 = .ok (.isub, 1) := by decide +kernel
theorem dJ6_bitCount_0f7a4_9 : decode cJ6_bitCount_0f7a4 9 = .ok (.istore_n 0, 1) := by decide +kernel
theorem dJ6_bitCount_0f7a4_10 : decode cJ6_bitCount_0f7a4 10 = .ok (.iload_n 0, 1) := by decide +kernel
theorem dJ6_bitCount_0f7a4_11 : decode cJ6_bitCount_0f7a4 11 = .ok (.ldc_w 266, 3) := by decide +kernel
theorem dJ6_bitCount_0f7a4_14 : decode cJ6_bitCount_0f7a4 14 = .ok (.iand, 1) := by decide +kernel
theorem dJ6_bitCount_0f7a4_15 : decode cJ6_bitCount_0f7a4 15 = .ok (.iload_n 0, 1) := by decide +kernel
theorem dJ6_bitCount_0f7a4_16 : decode cJ6_bitCount_0f7a4 16 = .ok (.iconst 2, 1) := by decide +kernel
theorem dJ6_bitCount_0f7a4_17 : decode cJ6_bitCount_0f7a4 17 = .ok (.iushr, 1) := by decide +kernel
theorem dJ6_bitCount_0f7a4_18 : decode cJ6_bitCount_0f7a4 18 = .ok (.ldc_w 266, 3) := by decide +kernel
theorem dJ6_bitCount_0f7a4_21 : decode cJ6_bitCount_0f7a4 21 = .ok (.iand, 1) := by decide +kernel
theorem dJ6_bitCount_0f7a4_22 : decode cJ6_bitCount_0f7a4 22 = .ok (.iadd, 1) := by decide +kernel
theorem dJ6_bitCount_0f7a4_23 : decode cJ6_bitCount_0f7a4 23 = .ok (.istore_n 0, 1) := by decide +kernel
theorem dJ6_bitCount_0f7a4_24 : decode cJ6_bitCount_0f7a4 24 = .ok (.iload_n 0, 1) := by decide +kernel
theorem dJ6_bitCount_0f7a4_25 : decode cJ6_bitCount_0f7a4 25 = .ok (.iload_n 0, 1) := by decide +kernel
theorem dJ6_bitCount_0f7a4_26 : decode cJ6_bitCount_0f7a4 26 = .ok (.iconst 4, 1) := by decide +kernel
theorem dJ6_bitCount_0f7a4_27 : decode cJ6_bitCount_0f7a4 27 = .ok (.iushr, 1) := by decide +kernel
theorem dJ6_bitCount_0f7a4_28 : decode cJ6_bitCount_0f7a4 28 = .ok (.iadd, 1) := by decide +kernel
theorem dJ6_bitCount_0f7a4_29 : decode cJ6_bitCount_0f7a4 29 = .ok (.ldc_w 267, 3) := by decide +kernel
theorem dJ6_bitCount_0f7a4_32 : decode cJ6_bitCount_0f7a4 32 = .ok (.iand, 1) := by decide +kernel
theorem dJ6_bitCount_0f7a4_33 : decode cJ6_bitCount_0f7a4 33 = .ok (.istore_n 0, 1) := by decide +kernel
theorem dJ6_bitCount_0f7a4_34 : decode cJ6_bitCount_0f7a4 34 = .ok (.iload_n 0, 1) := by decide +kernel
theorem dJ6_bitCount_0f7a4_35 : decode cJ6_bitCount_0f7a4 35 = .ok (.iload_n 0, 1) := by decide +kernel
theorem dJ6_bitCount_0f7a4_36 : decode cJ6_bitCount_0f7a4 36 = .ok (.bipush 8, 2) := by decide +kernel
theorem dJ6_bitCount_0f7a4_38 : decode cJ6_bitCount_0f7a4 38 = .ok (.iushr, 1) := by decide +kernel
theorem dJ6_bitCount_0f7a4_39 : decode cJ6_bitCount_0f7a4 39 = .ok (.iadd, 1) := by decide +kernel
theorem dJ6_bitCount_0f7a4_40 : decode cJ6_bitCount_0f7a4 40 = .ok (.istore_n 0, 1) := by decide +kernel
theorem dJ6_bitCount_0f7a4_41 : decode cJ6_bitCount_0f7a4 41 = .ok (.iload_n 0, 1) := by decide +kernel
theorem dJ6_bitCount_0f7a4_42 : decode cJ6_bitCount_0f7a4 42 = .ok (.iload_n 0, 1) := by decide +kernel
theorem dJ6_bitCount_0f7a4_43 : decode cJ6_bitCount_0f7a4 43 = .ok (.bipush 16, 2) := by decide +kernel
theorem dJ6_bitCount_0f7a4_45 : decode cJ6_bitCount_0f7a4 45 = .ok (.iushr, 1) := by decide +kernel
theorem dJ6_bitCount_0f7a4_46 : decode cJ6_bitCount_0f7a4 46 = .ok (.iadd, 1) := by decide +kernel
theorem dJ6_bitCount_0f7a4_47 : decode cJ6_bitCount_0f7a4 47 = .ok (.istore_n 0, 1) := by decide +kernel
theorem dJ6_bitCount_0f7a4_48 : decode cJ6_bitCount_0f7a4 48 = .ok (.iload_n 0, 1) := by decide +kernel
theorem dJ6_bitCount_0f7a4_49 : decode cJ6_bitCount_0f7a4 49 = .ok (.bipush 63, 2) := by decide +kernel
theorem dJ6_bitCount_0f7a4_51 : decode cJ6_bitCount_0f7a4 51 = .ok (.iand, 1) := by decide +kernel
theorem dJ6_bitCount_0f7a4_52 : decode cJ6_bitCount_0f7a4 52 = .ok (.ireturn, 1) := by decide +kernel
theorem dJ9_max_7cf53_0 : decode cJ9_max_7cf53 0 = .ok (.iload_n 0, 1) := by decide +kernel
theorem dJ9_max_7cf53_1 : decode cJ9_max_7cf53 1 = .ok (.iload_n 1, 1) := by decide +kernel
theorem dJ9_max_7cf53_2 : decode cJ9_max_7cf53 2 = .ok (.if_icmp .lt 7, 3) := by decide +kernel
theorem dJ9_max_7cf53_5 : decode cJ9_max_7cf53 5 = .ok (.iload_n 0, 1) := by decide +kernel
theorem dJ9_max_7cf53_6 : decode cJ9_max_7cf53 6 = .ok (.goto 4, 3) := by decide +kernel
theorem dJ9_max_7cf53_9 : decode cJ9_max_7cf53 9 = .ok (.iload_n 1, 1) := by decide +kernel
theorem dJ9_max_7cf53_10 : decode cJ9_max_7cf53 10 = .ok (.ireturn, 1) := by decide +kernel
theorem dJ9_min_7cf53_0 : decode cJ9_min_7cf53 0 = .ok (.iload_n 0, 1) := by decide +kernel
theorem dJ9_min_7cf53_1 : decode cJ9_min_7cf53 1 = .ok (.iload_n 1, 1) := by decide +kernel
theorem dJ9_min_7cf53_2 : decode cJ9_min_7cf53 2 = .ok (.if_icmp .gt 7, 3) := by decide +kernel
theorem dJ9_min_7cf53_5 : decode cJ9_min_7cf53 5 = .ok (.iload_n 0, 1) := by decide +kernel
theorem dJ9_min_7cf53_6 : decode cJ9_min_7cf53 6 = .ok (.goto 4, 3) := by decide +kernel
theorem dJ9_min_7cf53_9 : decode cJ9_min_7cf53 9 = .ok (.iload_n 1, 1) := by decide +kernel
theorem dJ9_min_7cf53_10 : decode cJ9_min_7cf53 10 = .ok (.ireturn, 1) := by decide +kernel
theorem dJ0_length_8abf5_0 : decode cJ0_length_8abf5 0 = .ok (.aload_n 0, 1) := by decide +kernel
theorem dJ0_length_8abf5_1 : decode cJ0_length_8abf5 1 = .ok (.getfield 9, 3) := by decide +kernel
theorem dJ0_length_8abf5_4 : decode cJ0_length_8abf5 4 = .ok (.arraylength, 1) := by decide +kernel
theorem dJ0_length_8abf5_5 : decode cJ0_length_8abf5 5 = .ok (.aload_n 0, 1) := by decide +kernel
theorem dJ0_length_8abf5_6 : decode cJ0_length_8abf5 6 = .ok (.invokevirtual 335, 3) := by decide +kernel
theorem dJ0_length_8abf5_9 : decode cJ0_length_8abf5 9 = .ok (.ishr, 1) := by decide +kernel
theorem dJ0_length_8abf5_10 : decode cJ0_length_8abf5 10 = .ok (.ireturn, 1) := by decide +kernel
theorem dJ0_charAt_5068e_0 : decode cJ0_charAt_5068e 0 = .ok (.aload_n 0, 1) := by decide +kernel
theorem dJ0_charAt_5068e_1 : decode cJ0_charAt_5068e 1 = .ok (.invokevirtual 492, 3) := by decide +kernel
theorem dJ0_charAt_5068e_4 : decode cJ0_charAt_5068e 4 = .ok (.ifCond .eq 12, 3) := by decide +kernel
theorem dJ0_charAt_5068e_7 : decode cJ0_charAt_5068e 7 = .ok (.aload_n 0, 1) := by decide +kernel
theorem dJ0_charAt_5068e_8 : decode cJ0_charAt_5068e 8 = .ok (.getfield 9, 3) := by decide +kernel
theorem dJ0_charAt_5068e_11 : decode cJ0_charAt_5068e 11 = .ok (.iload_n 1, 1) := by decide +kernel
theorem dJ0_charAt_5068e_12 : decode cJ0_charAt_5068e 12 = .ok (.invokestatic 495, 3) := by decide +kernel
theorem dJ0_charAt_5068e_15 : decode cJ0_charAt_5068e 15 = .ok (.ireturn, 1) := by decide +kernel
theorem dJ0_charAt_5068e_16 : decode cJ0_charAt_5068e 16 = .ok (.aload_n 0, 1) := by decide +kernel
theorem dJ0_charAt_5068e_17 : decode cJ0_charAt_5068e 17 = .ok (.getfield 9, 3) := by decide +kernel
theorem dJ0_charAt_5068e_20 : decode cJ0_charAt_5068e 20 = .ok (.iload_n 1, 1) := by decide +kernel
theorem dJ0_charAt_5068e_21 : decode cJ0_charAt_5068e 21 = .ok (.invokestatic 498, 3) := by decide +kernel
theorem dJ0_charAt_5068e_24 : decode cJ0_charAt_5068e 24 = .ok (.ireturn, 1) := by decide +kernel
theorem dJ0_coder_7d493_0 : decode cJ0_coder_7d493 0 = .ok (.getstatic 38, 3) := by decide +kernel
theorem dJ0_coder_7d493_3 : decode cJ0_coder_7d493 3 = .ok (.ifCond .eq 10, 3) := by decide +kernel
theorem dJ0_coder_7d493_6 : decode cJ0_coder_7d493 6 = .ok (.aload_n 0, 1) := by decide +kernel
theorem dJ0_coder_7d493_7 : decode cJ0_coder_7d493 7 = .ok (.getfield 15, 3) := by decide +kernel
theorem dJ0_coder_7d493_10 : decode cJ0_coder_7d493 10 = .ok (.goto 4, 3) := by decide +kernel
theorem dJ0_coder_7d493_13 : decode cJ0_coder_7d493 13 = .ok (.iconst 1, 1) := by decide +kernel
theorem dJ0_coder_7d493_14 : decode cJ0_coder_7d493 14 = .ok (.ireturn, 1) := by decide +kernel
theorem dJ0_isLatin1_aae02_0 : decode cJ0_isLatin1_aae02 0 = .ok (.getstatic 38, 3) := by decide +kernel
theorem dJ0_isLatin1_aae02_3 : decode cJ0_isLatin1_aae02 3 = .ok (.ifCond .eq 14, 3) := by decide +kernel
theorem dJ0_isLatin1_aae02_6 : decode cJ0_isLatin1_aae02 6 = .ok (.aload_n 0, 1) := by decide +kernel
theorem dJ0_isLatin1_aae02_7 : decode cJ0_isLatin1_aae02 7 = .ok (.getfield 15, 3) := by decide +kernel
theorem dJ0_isLatin1_aae02_10 : decode cJ0_isLatin1_aae02 10 = .ok (.ifCond .ne 7, 3) := by decide +kernel
theorem dJ0_isLatin1_aae02_13 : decode cJ0_isLatin1_aae02 13 = .ok (.iconst 1, 1) := by decide +kernel
theorem dJ0_isLatin1_aae02_14 : decode cJ0_isLatin1_aae02 14 = .ok (.goto 4, 3) := by decide +kernel
theorem dJ0_isLatin1_aae02_17 : decode cJ0_isLatin1_aae02 17 = .ok (.iconst 0, 1) := by decide +kernel
theorem dJ0_isLatin1_aae02_18 : decode cJ0_isLatin1_aae02 18 = .ok (.ireturn, 1) := by decide +kernel
theorem dJ0_checkIndex_df160_0 : decode cJ0_checkIndex_df160 0 = .ok (.iload_n 0, 1) := by decide +kernel
theorem dJ0_checkIndex_df160_1 : decode cJ0_checkIndex_df160 1 = .ok (.iload_n 1, 1) := by decide +kernel
theorem dJ0_checkIndex_df160_2 : decode cJ0_checkIndex_df160 2 = .ok (.getstatic 1053, 3) := by decide +kernel
theorem dJ0_checkIndex_df160_5 : decode cJ0_checkIndex_df160 5 = .ok (.invokestatic 1059, 3) := by decide +kernel
theorem dJ0_checkIndex_df160_8 : decode cJ0_checkIndex_df160 8 = .ok (.pop, 1) := by decide +kernel
theorem dJ0_checkIndex_df160_9 : decode cJ0_checkIndex_df160 9 = .ok (.return_, 1) := by decide +kernel
theorem dJ1_charAt_3b067_0 : decode cJ1_charAt_3b067 0 = .ok (.iload_n 1, 1) := by decide +kernel
theorem dJ1_charAt_3b067_1 : decode cJ1_charAt_3b067 1 = .ok (.aload_n 0, 1) := by decide +kernel
theorem dJ1_charAt_3b067_2 : decode cJ1_charAt_3b067 2 = .ok (.arraylength, 1) := by decide +kernel
theorem dJ1_charAt_3b067_3 : decode cJ1_charAt_3b067 3 = .ok (.invokestatic 9, 3) := by decide +kernel
theorem dJ1_charAt_3b067_6 : decode cJ1_charAt_3b067 6 = .ok (.aload_n 0, 1) := by decide +kernel
theorem dJ1_charAt_3b067_7 : decode cJ1_charAt_3b067 7 = .ok (.iload_n 1, 1) := by decide +kernel
theorem dJ1_charAt_3b067_8 : decode cJ1_charAt_3b067 8 = .ok (.baload, 1) := by decide +kernel
theorem dJ1_charAt_3b067_9 : decode cJ1_charAt_3b067 9 = .ok (.sipush 255, 3) := by decide +kernel
theorem dJ1_charAt_3b067_12 : decode cJ1_charAt_3b067 12 = .ok (.iand, 1) := by decide +kernel
theorem dJ1_charAt_3b067_13 : decode cJ1_charAt_3b067 13 = .ok (.i2c, 1) := by decide +kernel
theorem dJ1_charAt_3b067_14 : decode cJ1_charAt_3b067 14 = .ok (.ireturn, 1) := by decide +kernel
theorem dJ2_getChar_3b067_0 : decode cJ2_getChar_3b067 0 = .ok (.getstatic 44, 3) := by decide +kernel
theorem dJ2_getChar_3b067_3 : decode cJ2_getChar_3b067 3 = .ok (.ifCond .ne 25, 3) := by decide +kernel
theorem dJ2_getChar_3b067_6 : decode cJ2_getChar_3b067 6 = .ok (.iload_n 1, 1) := by decide +kernel
theorem dJ2_getChar_3b067_7 : decode cJ2_getChar_3b067 7 = .ok (.ifCond .lt 11, 3) := by decide +kernel
theorem dJ2_getChar_3b067_10 : decode cJ2_getChar_3b067 10 = .ok (.iload_n 1, 1) := by decide +kernel
theorem dJ2_getChar_3b067_11 : decode cJ2_getChar_3b067 11 = .ok (.aload_n 0, 1) := by decide +kernel
theorem dJ2_getChar_3b067_12 : decode cJ2_getChar_3b067 12 = .ok (.invokestatic 48, 3) := by decide +kernel
theorem dJ2_getChar_3b067_15 : decode cJ2_getChar_3b067 15 = .ok (.if_icmp .lt 13, 3) := by decide +kernel
theorem dJ2_getChar_3b067_18 : decode cJ2_getChar_3b067 18 = .ok (.new 52, 3) := by decide +kernel
theorem dJ2_getChar_3b067_21 : decode cJ2_getChar_3b067 21 = .ok (.dup, 1) := by decide +kernel
theorem dJ2_getChar_3b067_22 : decode cJ2_getChar_3b067 22 = .ok (.ldc 54, 2) := by decide +kernel
theorem dJ2_getChar_3b067_24 : decode cJ2_getChar_3b067 24 = .ok (.invokespecial 56, 3) := by decide +kernel
theorem dJ2_getChar_3b067_27 : decode cJ2_getChar_3b067 27 = .ok (.athrow, 1) := by decide +kernel
theorem dJ2_getChar_3b067_28 : decode cJ2_getChar_3b067 28 = .ok (.iload_n 1, 1) := by decide +kernel
theorem dJ2_getChar_3b067_29 : decode cJ2_getChar_3b067 29 = .ok (.iconst 1, 1) := by decide +kernel
theorem dJ2_getChar_3b067_30 : decode cJ2_getChar_3b067 30 = .ok (.ishl, 1) := by decide +kernel
theorem dJ2_getChar_3b067_31 : decode cJ2_getChar_3b067 31 = .ok (.istore_n 1, 1) := by decide +kernel
theorem dJ2_getChar_3b067_32 : decode cJ2_getChar_3b067 32 = .ok (.aload_n 0, 1) := by decide +kernel
theorem dJ2_getChar_3b067_33 : decode cJ2_getChar_3b067 33 = .ok (.iload_n 1, 1) := by decide +kernel
theorem dJ2_getChar_3b067_34 : decode cJ2_getChar_3b067 34 = .ok (.iinc 1 1, 3) := by decide +kernel
theorem dJ2_getChar_3b067_37 : decode cJ2_getChar_3b067 37 = .ok (.baload, 1) := by decide +kernel
theorem dJ2_getChar_3b067_38 : decode cJ2_getChar_3b067 38 = .ok (.sipush 255, 3) := by decide +kernel
theorem dJ2_getChar_3b067_41 : decode cJ2_getChar_3b067 41 = .ok (.iand, 1) := by decide +kernel
theorem dJ2_getChar_3b067_42 : decode cJ2_getChar_3b067 42 = .ok (.getstatic 59, 3) := by decide +kernel
theorem dJ2_getChar_3b067_45 : decode cJ2_getChar_3b067 45 = .ok (.ishl, 1) := by decide +kernel
theorem dJ2_getChar_3b067_46 : decode cJ2_getChar_3b067 46 = .ok (.aload_n 0, 1) := by decide +kernel
theorem dJ2_getChar_3b067_47 : decode cJ2_getChar_3b067 47 = .ok (.iload_n 1, 1) := by decide +kernel
theorem dJ2_getChar_3b067_48 : decode cJ2_getChar_3b067 48 = .ok (.baload, 1) := by decide +kernel
theorem dJ2_getChar_3b067_49 : decode cJ2_getChar_3b067 49 = .ok (.sipush 255, 3) := by decide +kernel
theorem dJ2_getChar_3b067_52 : decode cJ2_getChar_3b067 52 = .ok (.iand, 1) := by decide +kernel
theorem dJ2_getChar_3b067_53 : decode cJ2_getChar_3b067 53 = .ok (.getstatic 63, 3) := by decide +kernel
theorem dJ2_getChar_3b067_56 : decode cJ2_getChar_3b067 56 = .ok (.ishl, 1) := by decide +kernel
theorem dJ2_getChar_3b067_57 : decode cJ2_getChar_3b067 57 = .ok (.ior, 1) := by decide +kernel
theorem dJ2_getChar_3b067_58 : decode cJ2_getChar_3b067 58 = .ok (.i2c, 1) := by decide +kernel
theorem dJ2_getChar_3b067_59 : decode cJ2_getChar_3b067 59 = .ok (.ireturn, 1) := by decide +kernel
theorem dJ2_length_9d52b_0 : decode cJ2_length_9d52b 0 = .ok (.aload_n 0, 1) := by decide +kernel
theorem dJ2_length_9d52b_1 : decode cJ2_length_9d52b 1 = .ok (.arraylength, 1) := by decide +kernel
theorem dJ2_length_9d52b_2 : decode cJ2_length_9d52b 2 = .ok (.iconst 1, 1) := by decide +kernel
theorem dJ2_length_9d52b_3 : decode cJ2_length_9d52b 3 = .ok (.ishr, 1) := by decide +kernel
theorem dJ2_length_9d52b_4 : decode cJ2_length_9d52b 4 = .ok (.ireturn, 1) := by decide +kernel
theorem dJ2_charAt_3b067_0 : decode cJ2_charAt_3b067 0 = .ok (.iload_n 1, 1) := by decide +kernel
theorem dJ2_charAt_3b067_1 : decode cJ2_charAt_3b067 1 = .ok (.aload_n 0, 1) := by decide +kernel
theorem dJ2_charAt_3b067_2 : decode cJ2_charAt_3b067 2 = .ok (.invokestatic 67, 3) := by decide +kernel
theorem dJ2_charAt_3b067_5 : decode cJ2_charAt_3b067 5 = .ok (.aload_n 0, 1) := by decide +kernel
theorem dJ2_charAt_3b067_6 : decode cJ2_charAt_3b067 6 = .ok (.iload_n 1, 1) := by decide +kernel
theorem dJ2_charAt_3b067_7 : decode cJ2_charAt_3b067 7 = .ok (.invokestatic 71, 3) := by decide +kernel
theorem dJ2_charAt_3b067_10 : decode cJ2_charAt_3b067 10 = .ok (.ireturn, 1) := by decide +kernel
theorem dJ2_checkIndex_2214a_0 : decode cJ2_checkIndex_2214a 0 = .ok (.iload_n 0, 1) := by decide +kernel
theorem dJ2_checkIndex_2214a_1 : decode cJ2_checkIndex_2214a 1 = .ok (.aload_n 1, 1) := by decide +kernel
theorem dJ2_checkIndex_2214a_2 : decode cJ2_checkIndex_2214a 2 = .ok (.invokestatic 48, 3) := by decide +kernel
theorem dJ2_checkIndex_2214a_5 : decode cJ2_checkIndex_2214a 5 = .ok (.invokestatic 414, 3) := by decide +kernel
theorem dJ2_checkIndex_2214a_8 : decode cJ2_checkIndex_2214a 8 = .ok (.return_, 1) := by decide +kernel
theorem dJ3_checkIndex_8e157_0 : decode cJ3_checkIndex_8e157 0 = .ok (.iload_n 0, 1) := by decide +kernel
theorem dJ3_checkIndex_8e157_1 : decode cJ3_checkIndex_8e157 1 = .ok (.ifCond .lt 8, 3) := by decide +kernel
theorem dJ3_checkIndex_8e157_4 : decode cJ3_checkIndex_8e157 4 = .ok (.iload_n 0, 1) := by decide +kernel
theorem dJ3_checkIndex_8e157_5 : decode cJ3_checkIndex_8e157 5 = .ok (.iload_n 1, 1) := by decide +kernel
theorem dJ3_checkIndex_8e157_6 : decode cJ3_checkIndex_8e157 6 = .ok (.if_icmp .lt 10, 3) := by decide +kernel
theorem dJ3_checkIndex_8e157_9 : decode cJ3_checkIndex_8e157 9 = .ok (.aload_n 2, 1) := by decide +kernel
theorem dJ3_checkIndex_8e157_10 : decode cJ3_checkIndex_8e157 10 = .ok (.iload_n 0, 1) := by decide +kernel
theorem dJ3_checkIndex_8e157_11 : decode cJ3_checkIndex_8e157 11 = .ok (.iload_n 1, 1) := by decide +kernel
theorem dJ3_checkIndex_8e157_12 : decode cJ3_checkIndex_8e157 12 = .ok (.invokestatic 95, 3) := by decide +kernel
theorem dJ3_checkIndex_8e157_15 : decode cJ3_checkIndex_8e157 15 = .ok (.athrow, 1) := by decide +kernel
theorem dJ3_checkIndex_8e157_16 : decode cJ3_checkIndex_8e157 16 = .ok (.iload_n 0, 1) := by decide +kernel
theorem dJ3_checkIndex_8e157_17 : decode cJ3_checkIndex_8e157 17 = .ok (.ireturn, 1) := by decide +kernel
end
section
/-! printed: decode rows -/
theorem dX6_init_0 : decode cX6_init 0 = .ok (.aload_n 0, 1) := by decide +kernel
theorem dX6_init_1 : decode cX6_init 1 = .ok (.invokespecial 1, 3) := by decide +kernel
theorem dX6_init_4 : decode cX6_init 4 = .ok (.aload_n 0, 1) := by decide +kernel
theorem dX6_init_5 : decode cX6_init 5 = .ok (.bipush 61, 2) := by decide +kernel
theorem dX6_init_7 : decode cX6_init 7 = .ok (.newarray .int, 2) := by decide +kernel
theorem dX6_init_9 : decode cX6_init 9 = .ok (.putfield 7, 3) := by decide +kernel
theorem dX6_init_12 : decode cX6_init 12 = .ok (.aload_n 0, 1) := by decide +kernel
theorem dX6_init_13 : decode cX6_init 13 = .ok (.bipush 61, 2) := by decide +kernel
theorem dX6_init_15 : decode cX6_init 15 = .ok (.newarray .int, 2) := by decide +kernel
theorem dX6_init_17 : decode cX6_init 17 = .ok (.putfield 13, 3) := by decide +kernel
theorem dX6_init_20 : decode cX6_init 20 = .ok (.aload_n 0, 1) := by decide +kernel
theorem dX6_init_21 : decode cX6_init 21 = .ok (.bipush 61, 2) := by decide +kernel
theorem dX6_init_23 : decode cX6_init 23 = .ok (.newarray .int, 2) := by decide +kernel
theorem dX6_init_25 : decode cX6_init 25 = .ok (.putfield 16, 3) := by decide +kernel
theorem dX6_init_28 : decode cX6_init 28 = .ok (.aload_n 0, 1) := by decide +kernel
theorem dX6_init_29 : decode cX6_init 29 = .ok (.bipush 61, 2) := by decide +kernel
theorem dX6_init_31 : decode cX6_init 31 = .ok (.newarray .int, 2) := by decide +kernel
theorem dX6_init_33 : decode cX6_init 33 = .ok (.putfield 19, 3) := by decide +kernel
theorem dX6_init_36 : decode cX6_init 36 = .ok (.aload_n 0, 1) := by decide +kernel
theorem dX6_init_37 : decode cX6_init 37 = .ok (.bipush 7, 2) := by decide +kernel
theorem dX6_init_39 : decode cX6_init 39 = .ok (.newarray .int, 2) := by decide +kernel
theorem dX6_init_41 : decode cX6_init 41 = .ok (.putfield 22, 3) := by decide +kernel
theorem dX6_init_44 : decode cX6_init 44 = .ok (.aload_n 0, 1) := by decide +kernel
theorem dX6_init_45 : decode cX6_init 45 = .ok (.bipush 120, 2) := by decide +kernel
theorem dX6_init_47 : decode cX6_init 47 = .ok (.newarray .int, 2) := by decide +kernel
theorem dX6_init_49 : decode cX6_init 49 = .ok (.putfield 25, 3) := by decide +kernel
theorem dX6_init_52 : decode cX6_init 52 = .ok (.aload_n 0, 1) := by decide +kernel
theorem dX6_init_53 : decode cX6_init 53 = .ok (.iconst 4, 1) := by decide +kernel
theorem dX6_init_54 : decode cX6_init 54 = .ok (.newarray .int, 2) := by decide +kernel
theorem dX6_init_56 : decode cX6_init 56 = .ok (.putfield 28, 3) := by decide +kernel
theorem dX6_init_59 : decode cX6_init 59 = .ok (.aload_n 0, 1) := by decide +kernel
theorem dX6_init_60 : decode cX6_init 60 = .ok (.iconst 4, 1) := by decide +kernel
theorem dX6_init_61 : decode cX6_init 61 = .ok (.newarray .int, 2) := by decide +kernel
theorem dX6_init_63 : decode cX6_init 63 = .ok (.putfield 31, 3) := by decide +kernel
theorem dX6_init_66 : decode cX6_init 66 = .ok (.aload_n 0, 1) := by decide +kernel
theorem dX6_init_67 : decode cX6_init 67 = .ok (.sipush 160, 3) := by decide +kernel
theorem dX6_init_70 : decode cX6_init 70 = .ok (.newarray .long, 2) := by decide +kernel
theorem dX6_init_72 : decode cX6_init 72 = .ok (.putfield 34, 3) := by decide +kernel
theorem dX6_init_75 : decode cX6_init 75 = .ok (.aload_n 0, 1) := by decide +kernel
theorem dX6_init_76 : decode cX6_init 76 = .ok (.bipush 40, 2) := by decide +kernel
theorem dX6_init_78 : decode cX6_init 78 = .ok (.newarray .long, 2) := by decide +kernel
theorem dX6_init_80 : decode cX6_init 80 = .ok (.putfield 38, 3) := by decide +kernel
theorem dX6_init_83 : decode cX6_init 83 = .ok (.aload_n 0, 1) := by decide +kernel
theorem dX6_init_84 : decode cX6_init 84 = .ok (.getfield 7, 3) := by decide +kernel
theorem dX6_init_87 : decode cX6_init 87 = .ok (.iconst 3, 1) := by decide +kernel
theorem dX6_init_88 : decode cX6_init 88 = .ok (.bipush 10, 2) := by decide +kernel
theorem dX6_init_90 : decode cX6_init 90 = .ok (.iastore, 1) := by decide +kernel
theorem dX6_init_91 : decode cX6_init 91 = .ok (.return_, 1) := by decide +kernel
theorem dX6_in_0 : decode cX6_in 0 = .ok (.lload_n 0, 1) := by decide +kernel
theorem dX6_in_1 : decode cX6_in 1 = .ok (.lload_n 2, 1) := by decide +kernel
theorem dX6_in_2 : decode cX6_in 2 = .ok (.lcmp, 1) := by decide +kernel
theorem dX6_in_3 : decode cX6_in 3 = .ok (.ifCond .lt 14, 3) := by decide +kernel
theorem dX6_in_6 : decode cX6_in 6 = .ok (.lload_n 0, 1) := by decide +kernel
theorem dX6_in_7 : decode cX6_in 7 = .ok (.lload 4, 2) := by decide +kernel
theorem dX6_in_9 : decode cX6_in 9 = .ok (.lcmp, 1) := by decide +kernel
theorem dX6_in_10 : decode cX6_in 10 = .ok (.ifCond .gt 7, 3) := by decide +kernel
theorem dX6_in_13 : decode cX6_in 13 = .ok (.iconst 1, 1) := by decide +kernel
theorem dX6_in_14 : decode cX6_in 14 = .ok (.goto 4, 3) := by decide +kernel
theorem dX6_in_17 : decode cX6_in 17 = .ok (.iconst 0, 1) := by decide +kernel
theorem dX6_in_18 : decode cX6_in 18 = .ok (.ireturn, 1) := by decide +kernel
theorem dX6_finds_0 : decode cX6_finds 0 = .ok (.aload_n 0, 1) := by decide +kernel
theorem dX6_finds_1 : decode cX6_finds 1 = .ok (.getfield 22, 3) := by decide +kernel
theorem dX6_finds_4 : decode cX6_finds 4 = .ok (.ldc 41, 2) := by decide +kernel
theorem dX6_finds_6 : decode cX6_finds 6 = .ok (.iload_n 1, 1) := by decide +kernel
theorem dX6_finds_7 : decode cX6_finds 7 = .ok (.isub, 1) := by decide +kernel
theorem dX6_finds_8 : decode cX6_finds 8 = .ok (.dup2, 1) := by decide +kernel
theorem dX6_finds_9 : decode cX6_finds 9 = .ok (.iaload, 1) := by decide +kernel
theorem dX6_finds_10 : decode cX6_finds 10 = .ok (.iconst 1, 1) := by decide +kernel
theorem dX6_finds_11 : decode cX6_finds 11 = .ok (.iadd, 1) := by decide +kernel
theorem dX6_finds_12 : decode cX6_finds 12 = .ok (.iastore, 1) := by decide +kernel
theorem dX6_finds_13 : decode cX6_finds 13 = .ok (.iload_n 1, 1) := by decide +kernel
theorem dX6_finds_14 : decode cX6_finds 14 = .ok (.ireturn, 1) := by decide +kernel
theorem dX6_saves_0 : decode cX6_saves 0 = .ok (.iconst 0, 1) := by decide +kernel
theorem dX6_saves_1 : decode cX6_saves 1 = .ok (.istore_n 1, 1) := by decide +kernel
theorem dX6_saves_2 : decode cX6_saves 2 = .ok (.iload_n 1, 1) := by decide +kernel
theorem dX6_saves_3 : decode cX6_saves 3 = .ok (.bipush 61, 2) := by decide +kernel
theorem dX6_saves_5 : decode cX6_saves 5 = .ok (.if_icmp .ge 21, 3) := by decide +kernel
theorem dX6_saves_8 : decode cX6_saves 8 = .ok (.aload_n 0, 1) := by decide +kernel
theorem dX6_saves_9 : decode cX6_saves 9 = .ok (.getfield 16, 3) := by decide +kernel
theorem dX6_saves_12 : decode cX6_saves 12 = .ok (.iload_n 1, 1) := by decide +kernel
theorem dX6_saves_13 : decode cX6_saves 13 = .ok (.aload_n 0, 1) := by decide +kernel
theorem dX6_saves_14 : decode cX6_saves 14 = .ok (.getfield 7, 3) := by decide +kernel
theorem dX6_saves_17 : decode cX6_saves 17 = .ok (.iload_n 1, 1) := by decide +kernel
theorem dX6_saves_18 : decode cX6_saves 18 = .ok (.iaload, 1) := by decide +kernel
theorem dX6_saves_19 : decode cX6_saves 19 = .ok (.iastore, 1) := by decide +kernel
theorem dX6_saves_20 : decode cX6_saves 20 = .ok (.iinc 1 1, 3) := by decide +kernel
theorem dX6_saves_23 : decode cX6_saves 23 = .ok (.goto (-21), 3) := by decide +kernel
theorem dX6_saves_26 : decode cX6_saves 26 = .ok (.return_, 1) := by decide +kernel
theorem dX6_putsBack_0 : decode cX6_putsBack 0 = .ok (.iconst 0, 1) := by decide +kernel
theorem dX6_putsBack_1 : decode cX6_putsBack 1 = .ok (.istore_n 1, 1) := by decide +kernel
theorem dX6_putsBack_2 : decode cX6_putsBack 2 = .ok (.iload_n 1, 1) := by decide +kernel
theorem dX6_putsBack_3 : decode cX6_putsBack 3 = .ok (.bipush 61, 2) := by decide +kernel
theorem dX6_putsBack_5 : decode cX6_putsBack 5 = .ok (.if_icmp .ge 21, 3) := by decide +kernel
theorem dX6_putsBack_8 : decode cX6_putsBack 8 = .ok (.aload_n 0, 1) := by decide +kernel
theorem dX6_putsBack_9 : decode cX6_putsBack 9 = .ok (.getfield 7, 3) := by decide +kernel
theorem dX6_putsBack_12 : decode cX6_putsBack 12 = .ok (.iload_n 1, 1) := by decide +kernel
theorem dX6_putsBack_13 : decode cX6_putsBack 13 = .ok (.aload_n 0, 1) := by decide +kernel
theorem dX6_putsBack_14 : decode cX6_putsBack 14 = .ok (.getfield 16, 3) := by decide +kernel
theorem dX6_putsBack_17 : decode cX6_putsBack 17 = .ok (.iload_n 1, 1) := by decide +kernel
theorem dX6_putsBack_18 : decode cX6_putsBack 18 = .ok (.iaload, 1) := by decide +kernel
theorem dX6_putsBack_19 : decode cX6_putsBack 19 = .ok (.iastore, 1) := by decide +kernel
theorem dX6_putsBack_20 : decode cX6_putsBack 20 = .ok (.iinc 1 1, 3) := by decide +kernel
theorem dX6_putsBack_23 : decode cX6_putsBack 23 = .ok (.goto (-21), 3) := by decide +kernel
theorem dX6_putsBack_26 : decode cX6_putsBack 26 = .ok (.return_, 1) := by decide +kernel
theorem dX6_laysAside_0 : decode cX6_laysAside 0 = .ok (.iconst 0, 1) := by decide +kernel
theorem dX6_laysAside_1 : decode cX6_laysAside 1 = .ok (.istore_n 1, 1) := by decide +kernel
theorem dX6_laysAside_2 : decode cX6_laysAside 2 = .ok (.iload_n 1, 1) := by decide +kernel
theorem dX6_laysAside_3 : decode cX6_laysAside 3 = .ok (.bipush 61, 2) := by decide +kernel
theorem dX6_laysAside_5 : decode cX6_laysAside 5 = .ok (.if_icmp .ge 21, 3) := by decide +kernel
theorem dX6_laysAside_8 : decode cX6_laysAside 8 = .ok (.aload_n 0, 1) := by decide +kernel
theorem dX6_laysAside_9 : decode cX6_laysAside 9 = .ok (.getfield 19, 3) := by decide +kernel
theorem dX6_laysAside_12 : decode cX6_laysAside 12 = .ok (.iload_n 1, 1) := by decide +kernel
theorem dX6_laysAside_13 : decode cX6_laysAside 13 = .ok (.aload_n 0, 1) := by decide +kernel
theorem dX6_laysAside_14 : decode cX6_laysAside 14 = .ok (.getfield 7, 3) := by decide +kernel
theorem dX6_laysAside_17 : decode cX6_laysAside 17 = .ok (.iload_n 1, 1) := by decide +kernel
theorem dX6_laysAside_18 : decode cX6_laysAside 18 = .ok (.iaload, 1) := by decide +kernel
theorem dX6_laysAside_19 : decode cX6_laysAside 19 = .ok (.iastore, 1) := by decide +kernel
theorem dX6_laysAside_20 : decode cX6_laysAside 20 = .ok (.iinc 1 1, 3) := by decide +kernel
theorem dX6_laysAside_23 : decode cX6_laysAside 23 = .ok (.goto (-21), 3) := by decide +kernel
theorem dX6_laysAside_26 : decode cX6_laysAside 26 = .ok (.return_, 1) := by decide +kernel
theorem dX6_takesBack_0 : decode cX6_takesBack 0 = .ok (.iconst 0, 1) := by decide +kernel
theorem dX6_takesBack_1 : decode cX6_takesBack 1 = .ok (.istore_n 2, 1) := by decide +kernel
theorem dX6_takesBack_2 : decode cX6_takesBack 2 = .ok (.iload_n 2, 1) := by decide +kernel
theorem dX6_takesBack_3 : decode cX6_takesBack 3 = .ok (.bipush 61, 2) := by decide +kernel
theorem dX6_takesBack_5 : decode cX6_takesBack 5 = .ok (.if_icmp .ge 21, 3) := by decide +kernel
theorem dX6_takesBack_8 : decode cX6_takesBack 8 = .ok (.aload_n 0, 1) := by decide +kernel
theorem dX6_takesBack_9 : decode cX6_takesBack 9 = .ok (.getfield 7, 3) := by decide +kernel
theorem dX6_takesBack_12 : decode cX6_takesBack 12 = .ok (.iload_n 2, 1) := by decide +kernel
theorem dX6_takesBack_13 : decode cX6_takesBack 13 = .ok (.aload_n 0, 1) := by decide +kernel
theorem dX6_takesBack_14 : decode cX6_takesBack 14 = .ok (.getfield 19, 3) := by decide +kernel
theorem dX6_takesBack_17 : decode cX6_takesBack 17 = .ok (.iload_n 2, 1) := by decide +kernel
theorem dX6_takesBack_18 : decode cX6_takesBack 18 = .ok (.iaload, 1) := by decide +kernel
theorem dX6_takesBack_19 : decode cX6_takesBack 19 = .ok (.iastore, 1) := by decide +kernel
theorem dX6_takesBack_20 : decode cX6_takesBack 20 = .ok (.iinc 2 1, 3) := by decide +kernel
theorem dX6_takesBack_23 : decode cX6_takesBack 23 = .ok (.goto (-21), 3) := by decide +kernel
theorem dX6_takesBack_26 : decode cX6_takesBack 26 = .ok (.iload_n 1, 1) := by decide +kernel
theorem dX6_takesBack_27 : decode cX6_takesBack 27 = .ok (.ireturn, 1) := by decide +kernel
theorem dX6_becomes_0 : decode cX6_becomes 0 = .ok (.aload_n 0, 1) := by decide +kernel
theorem dX6_becomes_1 : decode cX6_becomes 1 = .ok (.getfield 7, 3) := by decide +kernel
theorem dX6_becomes_4 : decode cX6_becomes 4 = .ok (.iload_n 1, 1) := by decide +kernel
theorem dX6_becomes_5 : decode cX6_becomes 5 = .ok (.iaload, 1) := by decide +kernel
theorem dX6_becomes_6 : decode cX6_becomes 6 = .ok (.istore_n 3, 1) := by decide +kernel
theorem dX6_becomes_7 : decode cX6_becomes 7 = .ok (.aload_n 0, 1) := by decide +kernel
theorem dX6_becomes_8 : decode cX6_becomes 8 = .ok (.getfield 7, 3) := by decide +kernel
theorem dX6_becomes_11 : decode cX6_becomes 11 = .ok (.iload_n 1, 1) := by decide +kernel
theorem dX6_becomes_12 : decode cX6_becomes 12 = .ok (.iload_n 2, 1) := by decide +kernel
theorem dX6_becomes_13 : decode cX6_becomes 13 = .ok (.iastore, 1) := by decide +kernel
theorem dX6_becomes_14 : decode cX6_becomes 14 = .ok (.iload_n 3, 1) := by decide +kernel
theorem dX6_becomes_15 : decode cX6_becomes 15 = .ok (.ireturn, 1) := by decide +kernel
theorem dX6_isCalendar_0 : decode cX6_isCalendar 0 = .ok (.iload_n 1, 1) := by decide +kernel
theorem dX6_isCalendar_1 : decode cX6_isCalendar 1 = .ok (.i2l, 1) := by decide +kernel
theorem dX6_isCalendar_2 : decode cX6_isCalendar 2 = .ok (.lconst 0, 1) := by decide +kernel
theorem dX6_isCalendar_3 : decode cX6_isCalendar 3 = .ok (.aload_n 0, 1) := by decide +kernel
theorem dX6_isCalendar_4 : decode cX6_isCalendar 4 = .ok (.getfield 7, 3) := by decide +kernel
theorem dX6_isCalendar_7 : decode cX6_isCalendar 7 = .ok (.iconst 0, 1) := by decide +kernel
theorem dX6_isCalendar_8 : decode cX6_isCalendar 8 = .ok (.iaload, 1) := by decide +kernel
theorem dX6_isCalendar_9 : decode cX6_isCalendar 9 = .ok (.iconst 1, 1) := by decide +kernel
theorem dX6_isCalendar_10 : decode cX6_isCalendar 10 = .ok (.isub, 1) := by decide +kernel
theorem dX6_isCalendar_11 : decode cX6_isCalendar 11 = .ok (.i2l, 1) := by decide +kernel
theorem dX6_isCalendar_12 : decode cX6_isCalendar 12 = .ok (.invokestatic 42, 3) := by decide +kernel
theorem dX6_isCalendar_15 : decode cX6_isCalendar 15 = .ok (.ireturn, 1) := by decide +kernel
theorem dX6_areTwo_0 : decode cX6_areTwo 0 = .ok (.aload_n 0, 1) := by decide +kernel
theorem dX6_areTwo_1 : decode cX6_areTwo 1 = .ok (.iload_n 1, 1) := by decide +kernel
theorem dX6_areTwo_2 : decode cX6_areTwo 2 = .ok (.invokevirtual 46, 3) := by decide +kernel
theorem dX6_areTwo_5 : decode cX6_areTwo 5 = .ok (.ifCond .eq 20, 3) := by decide +kernel
theorem dX6_areTwo_8 : decode cX6_areTwo 8 = .ok (.aload_n 0, 1) := by decide +kernel
theorem dX6_areTwo_9 : decode cX6_areTwo 9 = .ok (.iload_n 2, 1) := by decide +kernel
theorem dX6_areTwo_10 : decode cX6_areTwo 10 = .ok (.invokevirtual 46, 3) := by decide +kernel
theorem dX6_areTwo_13 : decode cX6_areTwo 13 = .ok (.ifCond .eq 12, 3) := by decide +kernel
theorem dX6_areTwo_16 : decode cX6_areTwo 16 = .ok (.iload_n 1, 1) := by decide +kernel
theorem dX6_areTwo_17 : decode cX6_areTwo 17 = .ok (.iload_n 2, 1) := by decide +kernel
theorem dX6_areTwo_18 : decode cX6_areTwo 18 = .ok (.if_icmp .eq 7, 3) := by decide +kernel
theorem dX6_areTwo_21 : decode cX6_areTwo 21 = .ok (.iconst 1, 1) := by decide +kernel
theorem dX6_areTwo_22 : decode cX6_areTwo 22 = .ok (.goto 4, 3) := by decide +kernel
theorem dX6_areTwo_25 : decode cX6_areTwo 25 = .ok (.iconst 0, 1) := by decide +kernel
theorem dX6_areTwo_26 : decode cX6_areTwo 26 = .ok (.ireturn, 1) := by decide +kernel
theorem dX6_isPilgrim_0 : decode cX6_isPilgrim 0 = .ok (.iload_n 1, 1) := by decide +kernel
theorem dX6_isPilgrim_1 : decode cX6_isPilgrim 1 = .ok (.i2l, 1) := by decide +kernel
theorem dX6_isPilgrim_2 : decode cX6_isPilgrim 2 = .ok (.lconst 0, 1) := by decide +kernel
theorem dX6_isPilgrim_3 : decode cX6_isPilgrim 3 = .ok (.aload_n 0, 1) := by decide +kernel
theorem dX6_isPilgrim_4 : decode cX6_isPilgrim 4 = .ok (.getfield 7, 3) := by decide +kernel
theorem dX6_isPilgrim_7 : decode cX6_isPilgrim 7 = .ok (.iconst 1, 1) := by decide +kernel
theorem dX6_isPilgrim_8 : decode cX6_isPilgrim 8 = .ok (.iaload, 1) := by decide +kernel
theorem dX6_isPilgrim_9 : decode cX6_isPilgrim 9 = .ok (.iconst 1, 1) := by decide +kernel
theorem dX6_isPilgrim_10 : decode cX6_isPilgrim 10 = .ok (.isub, 1) := by decide +kernel
theorem dX6_isPilgrim_11 : decode cX6_isPilgrim 11 = .ok (.i2l, 1) := by decide +kernel
theorem dX6_isPilgrim_12 : decode cX6_isPilgrim 12 = .ok (.invokestatic 42, 3) := by decide +kernel
theorem dX6_isPilgrim_15 : decode cX6_isPilgrim 15 = .ok (.ireturn, 1) := by decide +kernel
theorem dX6_isKind_0 : decode cX6_isKind 0 = .ok (.iload_n 0, 1) := by decide +kernel
theorem dX6_isKind_1 : decode cX6_isKind 1 = .ok (.i2l, 1) := by decide +kernel
theorem dX6_isKind_2 : decode cX6_isKind 2 = .ok (.lconst 0, 1) := by decide +kernel
theorem dX6_isKind_3 : decode cX6_isKind 3 = .ok (.ldc2_w 50, 3) := by decide +kernel
theorem dX6_isKind_6 : decode cX6_isKind 6 = .ok (.invokestatic 42, 3) := by decide +kernel
theorem dX6_isKind_9 : decode cX6_isKind 9 = .ok (.ireturn, 1) := by decide +kernel
theorem dX6_its_0 : decode cX6_its 0 = .ok (.aload_n 0, 1) := by decide +kernel
theorem dX6_its_1 : decode cX6_its 1 = .ok (.getfield 7, 3) := by decide +kernel
theorem dX6_its_4 : decode cX6_its 4 = .ok (.bipush 7, 2) := by decide +kernel
theorem dX6_its_6 : decode cX6_its 6 = .ok (.iconst 5, 1) := by decide +kernel
theorem dX6_its_7 : decode cX6_its 7 = .ok (.iload_n 1, 1) := by decide +kernel
theorem dX6_its_8 : decode cX6_its 8 = .ok (.imul, 1) := by decide +kernel
theorem dX6_its_9 : decode cX6_its 9 = .ok (.iadd, 1) := by decide +kernel
theorem dX6_its_10 : decode cX6_its 10 = .ok (.iload_n 2, 1) := by decide +kernel
theorem dX6_its_11 : decode cX6_its 11 = .ok (.iadd, 1) := by decide +kernel
theorem dX6_its_12 : decode cX6_its 12 = .ok (.iaload, 1) := by decide +kernel
theorem dX6_its_13 : decode cX6_its 13 = .ok (.ireturn, 1) := by decide +kernel
theorem dX6_spot_0 : decode cX6_spot 0 = .ok (.bipush 37, 2) := by decide +kernel
theorem dX6_spot_2 : decode cX6_spot 2 = .ok (.iconst 3, 1) := by decide +kernel
theorem dX6_spot_3 : decode cX6_spot 3 = .ok (.iload_n 0, 1) := by decide +kernel
theorem dX6_spot_4 : decode cX6_spot 4 = .ok (.imul, 1) := by decide +kernel
theorem dX6_spot_5 : decode cX6_spot 5 = .ok (.iadd, 1) := by decide +kernel
theorem dX6_spot_6 : decode cX6_spot 6 = .ok (.iload_n 1, 1) := by decide +kernel
theorem dX6_spot_7 : decode cX6_spot 7 = .ok (.iadd, 1) := by decide +kernel
theorem dX6_spot_8 : decode cX6_spot 8 = .ok (.ireturn, 1) := by decide +kernel
theorem dX6_isOf_0 : decode cX6_isOf 0 = .ok (.aload_n 0, 1) := by decide +kernel
theorem dX6_isOf_1 : decode cX6_isOf 1 = .ok (.getfield 7, 3) := by decide +kernel
theorem dX6_isOf_4 : decode cX6_isOf 4 = .ok (.iload_n 1, 1) := by decide +kernel
theorem dX6_isOf_5 : decode cX6_isOf 5 = .ok (.iload_n 2, 1) := by decide +kernel
theorem dX6_isOf_6 : decode cX6_isOf 6 = .ok (.invokestatic 52, 3) := by decide +kernel
theorem dX6_isOf_9 : decode cX6_isOf 9 = .ok (.iaload, 1) := by decide +kernel
theorem dX6_isOf_10 : decode cX6_isOf 10 = .ok (.ireturn, 1) := by decide +kernel
theorem dX6_adds_0 : decode cX6_adds 0 = .ok (.bipush 7, 2) := by decide +kernel
theorem dX6_adds_2 : decode cX6_adds 2 = .ok (.iconst 5, 1) := by decide +kernel
theorem dX6_adds_3 : decode cX6_adds 3 = .ok (.aload_n 0, 1) := by decide +kernel
theorem dX6_adds_4 : decode cX6_adds 4 = .ok (.getfield 7, 3) := by decide +kernel
theorem dX6_adds_7 : decode cX6_adds 7 = .ok (.iconst 0, 1) := by decide +kernel
theorem dX6_adds_8 : decode cX6_adds 8 = .ok (.iaload, 1) := by decide +kernel
theorem dX6_adds_9 : decode cX6_adds 9 = .ok (.imul, 1) := by decide +kernel
theorem dX6_adds_10 : decode cX6_adds 10 = .ok (.iadd, 1) := by decide +kernel
theorem dX6_adds_11 : decode cX6_adds 11 = .ok (.istore_n 2, 1) := by decide +kernel
theorem dX6_adds_12 : decode cX6_adds 12 = .ok (.aload_n 0, 1) := by decide +kernel
theorem dX6_adds_13 : decode cX6_adds 13 = .ok (.getfield 7, 3) := by decide +kernel
theorem dX6_adds_16 : decode cX6_adds 16 = .ok (.iload_n 2, 1) := by decide +kernel
theorem dX6_adds_17 : decode cX6_adds 17 = .ok (.iconst 0, 1) := by decide +kernel
theorem dX6_adds_18 : decode cX6_adds 18 = .ok (.iadd, 1) := by decide +kernel
theorem dX6_adds_19 : decode cX6_adds 19 = .ok (.iload_n 1, 1) := by decide +kernel
theorem dX6_adds_20 : decode cX6_adds 20 = .ok (.iastore, 1) := by decide +kernel
theorem dX6_adds_21 : decode cX6_adds 21 = .ok (.aload_n 0, 1) := by decide +kernel
theorem dX6_adds_22 : decode cX6_adds 22 = .ok (.getfield 7, 3) := by decide +kernel
theorem dX6_adds_25 : decode cX6_adds 25 = .ok (.iload_n 2, 1) := by decide +kernel
theorem dX6_adds_26 : decode cX6_adds 26 = .ok (.iconst 1, 1) := by decide +kernel
theorem dX6_adds_27 : decode cX6_adds 27 = .ok (.iadd, 1) := by decide +kernel
theorem dX6_adds_28 : decode cX6_adds 28 = .ok (.iconst 0, 1) := by decide +kernel
theorem dX6_adds_29 : decode cX6_adds 29 = .ok (.iastore, 1) := by decide +kernel
theorem dX6_adds_30 : decode cX6_adds 30 = .ok (.aload_n 0, 1) := by decide +kernel
theorem dX6_adds_31 : decode cX6_adds 31 = .ok (.getfield 7, 3) := by decide +kernel
theorem dX6_adds_34 : decode cX6_adds 34 = .ok (.iload_n 2, 1) := by decide +kernel
theorem dX6_adds_35 : decode cX6_adds 35 = .ok (.iconst 2, 1) := by decide +kernel
theorem dX6_adds_36 : decode cX6_adds 36 = .ok (.iadd, 1) := by decide +kernel
theorem dX6_adds_37 : decode cX6_adds 37 = .ok (.bipush 30, 2) := by decide +kernel
theorem dX6_adds_39 : decode cX6_adds 39 = .ok (.iastore, 1) := by decide +kernel
theorem dX6_adds_40 : decode cX6_adds 40 = .ok (.aload_n 0, 1) := by decide +kernel
theorem dX6_adds_41 : decode cX6_adds 41 = .ok (.getfield 7, 3) := by decide +kernel
theorem dX6_adds_44 : decode cX6_adds 44 = .ok (.iload_n 2, 1) := by decide +kernel
theorem dX6_adds_45 : decode cX6_adds 45 = .ok (.iconst 3, 1) := by decide +kernel
theorem dX6_adds_46 : decode cX6_adds 46 = .ok (.iadd, 1) := by decide +kernel
theorem dX6_adds_47 : decode cX6_adds 47 = .ok (.bipush 11, 2) := by decide +kernel
theorem dX6_adds_49 : decode cX6_adds 49 = .ok (.iastore, 1) := by decide +kernel
theorem dX6_adds_50 : decode cX6_adds 50 = .ok (.aload_n 0, 1) := by decide +kernel
theorem dX6_adds_51 : decode cX6_adds 51 = .ok (.getfield 7, 3) := by decide +kernel
theorem dX6_adds_54 : decode cX6_adds 54 = .ok (.iload_n 2, 1) := by decide +kernel
theorem dX6_adds_55 : decode cX6_adds 55 = .ok (.iconst 4, 1) := by decide +kernel
theorem dX6_adds_56 : decode cX6_adds 56 = .ok (.iadd, 1) := by decide +kernel
theorem dX6_adds_57 : decode cX6_adds 57 = .ok (.bipush 50, 2) := by decide +kernel
theorem dX6_adds_59 : decode cX6_adds 59 = .ok (.iastore, 1) := by decide +kernel
theorem dX6_adds_60 : decode cX6_adds 60 = .ok (.aload_n 0, 1) := by decide +kernel
theorem dX6_adds_61 : decode cX6_adds 61 = .ok (.getfield 7, 3) := by decide +kernel
theorem dX6_adds_64 : decode cX6_adds 64 = .ok (.iconst 0, 1) := by decide +kernel
theorem dX6_adds_65 : decode cX6_adds 65 = .ok (.dup2, 1) := by decide +kernel
theorem dX6_adds_66 : decode cX6_adds 66 = .ok (.iaload, 1) := by decide +kernel
theorem dX6_adds_67 : decode cX6_adds 67 = .ok (.iconst 1, 1) := by decide +kernel
theorem dX6_adds_68 : decode cX6_adds 68 = .ok (.iadd, 1) := by decide +kernel
theorem dX6_adds_69 : decode cX6_adds 69 = .ok (.iastore, 1) := by decide +kernel
theorem dX6_adds_70 : decode cX6_adds 70 = .ok (.aload_n 0, 1) := by decide +kernel
theorem dX6_adds_71 : decode cX6_adds 71 = .ok (.getfield 7, 3) := by decide +kernel
theorem dX6_adds_74 : decode cX6_adds 74 = .ok (.iconst 0, 1) := by decide +kernel
theorem dX6_adds_75 : decode cX6_adds 75 = .ok (.iaload, 1) := by decide +kernel
theorem dX6_adds_76 : decode cX6_adds 76 = .ok (.iconst 1, 1) := by decide +kernel
theorem dX6_adds_77 : decode cX6_adds 77 = .ok (.isub, 1) := by decide +kernel
theorem dX6_adds_78 : decode cX6_adds 78 = .ok (.ireturn, 1) := by decide +kernel
theorem dX6_calendar_0 : decode cX6_calendar 0 = .ok (.iload_n 1, 1) := by decide +kernel
theorem dX6_calendar_1 : decode cX6_calendar 1 = .ok (.invokestatic 56, 3) := by decide +kernel
theorem dX6_calendar_4 : decode cX6_calendar 4 = .ok (.ifCond .ne 10, 3) := by decide +kernel
theorem dX6_calendar_7 : decode cX6_calendar 7 = .ok (.aload_n 0, 1) := by decide +kernel
theorem dX6_calendar_8 : decode cX6_calendar 8 = .ok (.ldc 41, 2) := by decide +kernel
theorem dX6_calendar_10 : decode cX6_calendar 10 = .ok (.invokevirtual 59, 3) := by decide +kernel
theorem dX6_calendar_13 : decode cX6_calendar 13 = .ok (.ireturn, 1) := by decide +kernel
theorem dX6_calendar_14 : decode cX6_calendar 14 = .ok (.aload_n 0, 1) := by decide +kernel
theorem dX6_calendar_15 : decode cX6_calendar 15 = .ok (.getfield 7, 3) := by decide +kernel
theorem dX6_calendar_18 : decode cX6_calendar 18 = .ok (.iconst 0, 1) := by decide +kernel
theorem dX6_calendar_19 : decode cX6_calendar 19 = .ok (.iaload, 1) := by decide +kernel
theorem dX6_calendar_20 : decode cX6_calendar 20 = .ok (.bipush 6, 2) := by decide +kernel
theorem dX6_calendar_22 : decode cX6_calendar 22 = .ok (.if_icmp .ne 12, 3) := by decide +kernel
theorem dX6_calendar_25 : decode cX6_calendar 25 = .ok (.aload_n 0, 1) := by decide +kernel
theorem dX6_calendar_26 : decode cX6_calendar 26 = .ok (.ldc 63, 2) := by decide +kernel
theorem dX6_calendar_28 : decode cX6_calendar 28 = .ok (.invokevirtual 59, 3) := by decide +kernel
theorem dX6_calendar_31 : decode cX6_calendar 31 = .ok (.goto 8, 3) := by decide +kernel
theorem dX6_calendar_34 : decode cX6_calendar 34 = .ok (.aload_n 0, 1) := by decide +kernel
theorem dX6_calendar_35 : decode cX6_calendar 35 = .ok (.iload_n 1, 1) := by decide +kernel
theorem dX6_calendar_36 : decode cX6_calendar 36 = .ok (.invokevirtual 64, 3) := by decide +kernel
theorem dX6_calendar_39 : decode cX6_calendar 39 = .ok (.ireturn, 1) := by decide +kernel
theorem dX6_of_0 : decode cX6_of 0 = .ok (.aload_n 0, 1) := by decide +kernel
theorem dX6_of_1 : decode cX6_of 1 = .ok (.iload_n 1, 1) := by decide +kernel
theorem dX6_of_2 : decode cX6_of 2 = .ok (.invokevirtual 46, 3) := by decide +kernel
theorem dX6_of_5 : decode cX6_of 5 = .ok (.ifCond .eq 24, 3) := by decide +kernel
theorem dX6_of_8 : decode cX6_of 8 = .ok (.iload_n 2, 1) := by decide +kernel
theorem dX6_of_9 : decode cX6_of 9 = .ok (.i2l, 1) := by decide +kernel
theorem dX6_of_10 : decode cX6_of 10 = .ok (.lconst 0, 1) := by decide +kernel
theorem dX6_of_11 : decode cX6_of 11 = .ok (.ldc2_w 67, 3) := by decide +kernel
theorem dX6_of_14 : decode cX6_of 14 = .ok (.invokestatic 42, 3) := by decide +kernel
theorem dX6_of_17 : decode cX6_of 17 = .ok (.ifCond .eq 12, 3) := by decide +kernel
theorem dX6_of_20 : decode cX6_of 20 = .ok (.aload_n 0, 1) := by decide +kernel
theorem dX6_of_21 : decode cX6_of 21 = .ok (.iload_n 1, 1) := by decide +kernel
theorem dX6_of_22 : decode cX6_of 22 = .ok (.iload_n 2, 1) := by decide +kernel
theorem dX6_of_23 : decode cX6_of 23 = .ok (.invokevirtual 69, 3) := by decide +kernel
theorem dX6_of_26 : decode cX6_of 26 = .ok (.goto 9, 3) := by decide +kernel
theorem dX6_of_29 : decode cX6_of 29 = .ok (.aload_n 0, 1) := by decide +kernel
theorem dX6_of_30 : decode cX6_of 30 = .ok (.ldc 41, 2) := by decide +kernel
theorem dX6_of_32 : decode cX6_of 32 = .ok (.invokevirtual 59, 3) := by decide +kernel
theorem dX6_of_35 : decode cX6_of 35 = .ok (.ireturn, 1) := by decide +kernel
theorem dX6_isPart_0 : decode cX6_isPart 0 = .ok (.iload_n 0, 1) := by decide +kernel
theorem dX6_isPart_1 : decode cX6_isPart 1 = .ok (.iconst 2, 1) := by decide +kernel
theorem dX6_isPart_2 : decode cX6_isPart 2 = .ok (.if_icmp .ne 15, 3) := by decide +kernel
theorem dX6_isPart_5 : decode cX6_isPart 5 = .ok (.iload_n 1, 1) := by decide +kernel
theorem dX6_isPart_6 : decode cX6_isPart 6 = .ok (.i2l, 1) := by decide +kernel
theorem dX6_isPart_7 : decode cX6_isPart 7 = .ok (.lconst 1, 1) := by decide +kernel
theorem dX6_isPart_8 : decode cX6_isPart 8 = .ok (.ldc2_w 72, 3) := by decide +kernel
theorem dX6_isPart_11 : decode cX6_isPart 11 = .ok (.invokestatic 42, 3) := by decide +kernel
theorem dX6_isPart_14 : decode cX6_isPart 14 = .ok (.goto 47, 3) := by decide +kernel
theorem dX6_isPart_17 : decode cX6_isPart 17 = .ok (.iload_n 0, 1) := by decide +kernel
theorem dX6_isPart_18 : decode cX6_isPart 18 = .ok (.iconst 4, 1) := by decide +kernel
theorem dX6_isPart_19 : decode cX6_isPart 19 = .ok (.if_icmp .ne 15, 3) := by decide +kernel
theorem dX6_isPart_22 : decode cX6_isPart 22 = .ok (.iload_n 1, 1) := by decide +kernel
theorem dX6_isPart_23 : decode cX6_isPart 23 = .ok (.i2l, 1) := by decide +kernel
theorem dX6_isPart_24 : decode cX6_isPart 24 = .ok (.lconst 0, 1) := by decide +kernel
theorem dX6_isPart_25 : decode cX6_isPart 25 = .ok (.ldc2_w 74, 3) := by decide +kernel
theorem dX6_isPart_28 : decode cX6_isPart 28 = .ok (.invokestatic 42, 3) := by decide +kernel
theorem dX6_isPart_31 : decode cX6_isPart 31 = .ok (.goto 30, 3) := by decide +kernel
theorem dX6_isPart_34 : decode cX6_isPart 34 = .ok (.iload_n 0, 1) := by decide +kernel
theorem dX6_isPart_35 : decode cX6_isPart 35 = .ok (.iconst 1, 1) := by decide +kernel
theorem dX6_isPart_36 : decode cX6_isPart 36 = .ok (.if_icmp .eq 8, 3) := by decide +kernel
theorem dX6_isPart_39 : decode cX6_isPart 39 = .ok (.iload_n 0, 1) := by decide +kernel
theorem dX6_isPart_40 : decode cX6_isPart 40 = .ok (.iconst 3, 1) := by decide +kernel
theorem dX6_isPart_41 : decode cX6_isPart 41 = .ok (.if_icmp .ne 19, 3) := by decide +kernel
theorem dX6_isPart_44 : decode cX6_isPart 44 = .ok (.iload_n 1, 1) := by decide +kernel
theorem dX6_isPart_45 : decode cX6_isPart 45 = .ok (.i2l, 1) := by decide +kernel
theorem dX6_isPart_46 : decode cX6_isPart 46 = .ok (.lconst 0, 1) := by decide +kernel
theorem dX6_isPart_47 : decode cX6_isPart 47 = .ok (.ldc2_w 76, 3) := by decide +kernel
theorem dX6_isPart_50 : decode cX6_isPart 50 = .ok (.invokestatic 42, 3) := by decide +kernel
theorem dX6_isPart_53 : decode cX6_isPart 53 = .ok (.ifCond .eq 7, 3) := by decide +kernel
theorem dX6_isPart_56 : decode cX6_isPart 56 = .ok (.iconst 1, 1) := by decide +kernel
theorem dX6_isPart_57 : decode cX6_isPart 57 = .ok (.goto 4, 3) := by decide +kernel
theorem dX6_isPart_60 : decode cX6_isPart 60 = .ok (.iconst 0, 1) := by decide +kernel
theorem dX6_isPart_61 : decode cX6_isPart 61 = .ok (.ireturn, 1) := by decide +kernel
theorem dX6_set_0 : decode cX6_set 0 = .ok (.aload_n 0, 1) := by decide +kernel
theorem dX6_set_1 : decode cX6_set 1 = .ok (.iload_n 1, 1) := by decide +kernel
theorem dX6_set_2 : decode cX6_set 2 = .ok (.invokevirtual 46, 3) := by decide +kernel
theorem dX6_set_5 : decode cX6_set 5 = .ok (.ifCond .eq 27, 3) := by decide +kernel
theorem dX6_set_8 : decode cX6_set 8 = .ok (.iload_n 2, 1) := by decide +kernel
theorem dX6_set_9 : decode cX6_set 9 = .ok (.iload_n 3, 1) := by decide +kernel
theorem dX6_set_10 : decode cX6_set 10 = .ok (.invokestatic 78, 3) := by decide +kernel
theorem dX6_set_13 : decode cX6_set 13 = .ok (.ifCond .eq 19, 3) := by decide +kernel
theorem dX6_set_16 : decode cX6_set 16 = .ok (.aload_n 0, 1) := by decide +kernel
theorem dX6_set_17 : decode cX6_set 17 = .ok (.bipush 7, 2) := by decide +kernel
theorem dX6_set_19 : decode cX6_set 19 = .ok (.iconst 5, 1) := by decide +kernel
theorem dX6_set_20 : decode cX6_set 20 = .ok (.iload_n 1, 1) := by decide +kernel
theorem dX6_set_21 : decode cX6_set 21 = .ok (.imul, 1) := by decide +kernel
theorem dX6_set_22 : decode cX6_set 22 = .ok (.iadd, 1) := by decide +kernel
theorem dX6_set_23 : decode cX6_set 23 = .ok (.iload_n 2, 1) := by decide +kernel
theorem dX6_set_24 : decode cX6_set 24 = .ok (.iadd, 1) := by decide +kernel
theorem dX6_set_25 : decode cX6_set 25 = .ok (.iload_n 3, 1) := by decide +kernel
theorem dX6_set_26 : decode cX6_set 26 = .ok (.invokevirtual 82, 3) := by decide +kernel
theorem dX6_set_29 : decode cX6_set 29 = .ok (.goto 9, 3) := by decide +kernel
theorem dX6_set_32 : decode cX6_set 32 = .ok (.aload_n 0, 1) := by decide +kernel
theorem dX6_set_33 : decode cX6_set 33 = .ok (.ldc 41, 2) := by decide +kernel
theorem dX6_set_35 : decode cX6_set 35 = .ok (.invokevirtual 59, 3) := by decide +kernel
theorem dX6_set_38 : decode cX6_set 38 = .ok (.ireturn, 1) := by decide +kernel
theorem dX6_turn_0 : decode cX6_turn 0 = .ok (.aload_n 0, 1) := by decide +kernel
theorem dX6_turn_1 : decode cX6_turn 1 = .ok (.iload_n 1, 1) := by decide +kernel
theorem dX6_turn_2 : decode cX6_turn 2 = .ok (.invokevirtual 46, 3) := by decide +kernel
theorem dX6_turn_5 : decode cX6_turn 5 = .ok (.ifCond .eq 26, 3) := by decide +kernel
theorem dX6_turn_8 : decode cX6_turn 8 = .ok (.iload_n 2, 1) := by decide +kernel
theorem dX6_turn_9 : decode cX6_turn 9 = .ok (.invokestatic 56, 3) := by decide +kernel
theorem dX6_turn_12 : decode cX6_turn 12 = .ok (.ifCond .eq 19, 3) := by decide +kernel
theorem dX6_turn_15 : decode cX6_turn 15 = .ok (.aload_n 0, 1) := by decide +kernel
theorem dX6_turn_16 : decode cX6_turn 16 = .ok (.bipush 7, 2) := by decide +kernel
theorem dX6_turn_18 : decode cX6_turn 18 = .ok (.iconst 5, 1) := by decide +kernel
theorem dX6_turn_19 : decode cX6_turn 19 = .ok (.iload_n 1, 1) := by decide +kernel
theorem dX6_turn_20 : decode cX6_turn 20 = .ok (.imul, 1) := by decide +kernel
theorem dX6_turn_21 : decode cX6_turn 21 = .ok (.iadd, 1) := by decide +kernel
theorem dX6_turn_22 : decode cX6_turn 22 = .ok (.iconst 0, 1) := by decide +kernel
theorem dX6_turn_23 : decode cX6_turn 23 = .ok (.iadd, 1) := by decide +kernel
theorem dX6_turn_24 : decode cX6_turn 24 = .ok (.iload_n 2, 1) := by decide +kernel
theorem dX6_turn_25 : decode cX6_turn 25 = .ok (.invokevirtual 82, 3) := by decide +kernel
theorem dX6_turn_28 : decode cX6_turn 28 = .ok (.goto 9, 3) := by decide +kernel
theorem dX6_turn_31 : decode cX6_turn 31 = .ok (.aload_n 0, 1) := by decide +kernel
theorem dX6_turn_32 : decode cX6_turn 32 = .ok (.ldc 41, 2) := by decide +kernel
theorem dX6_turn_34 : decode cX6_turn 34 = .ok (.invokevirtual 59, 3) := by decide +kernel
theorem dX6_turn_37 : decode cX6_turn 37 = .ok (.ireturn, 1) := by decide +kernel
theorem dX6_isUnder_0 : decode cX6_isUnder 0 = .ok (.iload_n 1, 1) := by decide +kernel
theorem dX6_isUnder_1 : decode cX6_isUnder 1 = .ok (.ifCond .eq 28, 3) := by decide +kernel
theorem dX6_isUnder_4 : decode cX6_isUnder 4 = .ok (.iload_n 0, 1) := by decide +kernel
theorem dX6_isUnder_5 : decode cX6_isUnder 5 = .ok (.iload_n 1, 1) := by decide +kernel
theorem dX6_isUnder_6 : decode cX6_isUnder 6 = .ok (.if_icmp .eq 23, 3) := by decide +kernel
theorem dX6_isUnder_9 : decode cX6_isUnder 9 = .ok (.iload_n 0, 1) := by decide +kernel
theorem dX6_isUnder_10 : decode cX6_isUnder 10 = .ok (.iconst 4, 1) := by decide +kernel
theorem dX6_isUnder_11 : decode cX6_isUnder 11 = .ok (.if_icmp .ne 8, 3) := by decide +kernel
theorem dX6_isUnder_14 : decode cX6_isUnder 14 = .ok (.iload_n 1, 1) := by decide +kernel
theorem dX6_isUnder_15 : decode cX6_isUnder 15 = .ok (.iconst 2, 1) := by decide +kernel
theorem dX6_isUnder_16 : decode cX6_isUnder 16 = .ok (.if_icmp .eq 13, 3) := by decide +kernel
theorem dX6_isUnder_19 : decode cX6_isUnder 19 = .ok (.iload_n 0, 1) := by decide +kernel
theorem dX6_isUnder_20 : decode cX6_isUnder 20 = .ok (.iconst 5, 1) := by decide +kernel
theorem dX6_isUnder_21 : decode cX6_isUnder 21 = .ok (.if_icmp .ne 12, 3) := by decide +kernel
theorem dX6_isUnder_24 : decode cX6_isUnder 24 = .ok (.iload_n 1, 1) := by decide +kernel
theorem dX6_isUnder_25 : decode cX6_isUnder 25 = .ok (.iconst 1, 1) := by decide +kernel
theorem dX6_isUnder_26 : decode cX6_isUnder 26 = .ok (.if_icmp .ne 7, 3) := by decide +kernel
theorem dX6_isUnder_29 : decode cX6_isUnder 29 = .ok (.iconst 1, 1) := by decide +kernel
theorem dX6_isUnder_30 : decode cX6_isUnder 30 = .ok (.goto 4, 3) := by decide +kernel
theorem dX6_isUnder_33 : decode cX6_isUnder 33 = .ok (.iconst 0, 1) := by decide +kernel
theorem dX6_isUnder_34 : decode cX6_isUnder 34 = .ok (.ireturn, 1) := by decide +kernel
theorem dX6_as_0 : decode cX6_as 0 = .ok (.aload_n 0, 1) := by decide +kernel
theorem dX6_as_1 : decode cX6_as 1 = .ok (.iload_n 1, 1) := by decide +kernel
theorem dX6_as_2 : decode cX6_as 2 = .ok (.invokevirtual 46, 3) := by decide +kernel
theorem dX6_as_5 : decode cX6_as 5 = .ok (.ifCond .eq 10, 3) := by decide +kernel
theorem dX6_as_8 : decode cX6_as 8 = .ok (.iload_n 2, 1) := by decide +kernel
theorem dX6_as_9 : decode cX6_as 9 = .ok (.invokestatic 56, 3) := by decide +kernel
theorem dX6_as_12 : decode cX6_as 12 = .ok (.ifCond .ne 10, 3) := by decide +kernel
theorem dX6_as_15 : decode cX6_as 15 = .ok (.aload_n 0, 1) := by decide +kernel
theorem dX6_as_16 : decode cX6_as 16 = .ok (.ldc 41, 2) := by decide +kernel
theorem dX6_as_18 : decode cX6_as 18 = .ok (.invokevirtual 59, 3) := by decide +kernel
theorem dX6_as_21 : decode cX6_as 21 = .ok (.ireturn, 1) := by decide +kernel
theorem dX6_as_22 : decode cX6_as 22 = .ok (.aload_n 0, 1) := by decide +kernel
theorem dX6_as_23 : decode cX6_as 23 = .ok (.iload_n 1, 1) := by decide +kernel
theorem dX6_as_24 : decode cX6_as 24 = .ok (.iconst 0, 1) := by decide +kernel
theorem dX6_as_25 : decode cX6_as 25 = .ok (.invokevirtual 69, 3) := by decide +kernel
theorem dX6_as_28 : decode cX6_as 28 = .ok (.iload_n 2, 1) := by decide +kernel
theorem dX6_as_29 : decode cX6_as 29 = .ok (.invokestatic 85, 3) := by decide +kernel
theorem dX6_as_32 : decode cX6_as 32 = .ok (.ifCond .eq 12, 3) := by decide +kernel
theorem dX6_as_35 : decode cX6_as 35 = .ok (.aload_n 0, 1) := by decide +kernel
theorem dX6_as_36 : decode cX6_as 36 = .ok (.iload_n 1, 1) := by decide +kernel
theorem dX6_as_37 : decode cX6_as 37 = .ok (.iconst 1, 1) := by decide +kernel
theorem dX6_as_38 : decode cX6_as 38 = .ok (.invokevirtual 69, 3) := by decide +kernel
theorem dX6_as_41 : decode cX6_as 41 = .ok (.goto 9, 3) := by decide +kernel
theorem dX6_as_44 : decode cX6_as 44 = .ok (.aload_n 0, 1) := by decide +kernel
theorem dX6_as_45 : decode cX6_as 45 = .ok (.ldc 88, 2) := by decide +kernel
theorem dX6_as_47 : decode cX6_as 47 = .ok (.invokevirtual 59, 3) := by decide +kernel
theorem dX6_as_50 : decode cX6_as 50 = .ok (.ireturn, 1) := by decide +kernel
theorem dX6_runs_0 : decode cX6_runs 0 = .ok (.iload_n 2, 1) := by decide +kernel
theorem dX6_runs_1 : decode cX6_runs 1 = .ok (.aload_n 0, 1) := by decide +kernel
theorem dX6_runs_2 : decode cX6_runs 2 = .ok (.iload_n 1, 1) := by decide +kernel
theorem dX6_runs_3 : decode cX6_runs 3 = .ok (.iconst 1, 1) := by decide +kernel
theorem dX6_runs_4 : decode cX6_runs 4 = .ok (.invokevirtual 69, 3) := by decide +kernel
theorem dX6_runs_7 : decode cX6_runs 7 = .ok (.iadd, 1) := by decide +kernel
theorem dX6_runs_8 : decode cX6_runs 8 = .ok (.istore_n 3, 1) := by decide +kernel
theorem dX6_runs_9 : decode cX6_runs 9 = .ok (.iload_n 3, 1) := by decide +kernel
theorem dX6_runs_10 : decode cX6_runs 10 = .ok (.iload_n 2, 1) := by decide +kernel
theorem dX6_runs_11 : decode cX6_runs 11 = .ok (.aload_n 0, 1) := by decide +kernel
theorem dX6_runs_12 : decode cX6_runs 12 = .ok (.iload_n 1, 1) := by decide +kernel
theorem dX6_runs_13 : decode cX6_runs 13 = .ok (.iconst 4, 1) := by decide +kernel
theorem dX6_runs_14 : decode cX6_runs 14 = .ok (.invokevirtual 69, 3) := by decide +kernel
theorem dX6_runs_17 : decode cX6_runs 17 = .ok (.if_icmp .lt 12, 3) := by decide +kernel
theorem dX6_runs_20 : decode cX6_runs 20 = .ok (.aload_n 0, 1) := by decide +kernel
theorem dX6_runs_21 : decode cX6_runs 21 = .ok (.iload_n 1, 1) := by decide +kernel
theorem dX6_runs_22 : decode cX6_runs 22 = .ok (.iconst 3, 1) := by decide +kernel
theorem dX6_runs_23 : decode cX6_runs 23 = .ok (.invokevirtual 69, 3) := by decide +kernel
theorem dX6_runs_26 : decode cX6_runs 26 = .ok (.goto 4, 3) := by decide +kernel
theorem dX6_runs_29 : decode cX6_runs 29 = .ok (.iconst 0, 1) := by decide +kernel
theorem dX6_runs_30 : decode cX6_runs 30 = .ok (.iadd, 1) := by decide +kernel
theorem dX6_runs_31 : decode cX6_runs 31 = .ok (.istore 4, 2) := by decide +kernel
theorem dX6_runs_33 : decode cX6_runs 33 = .ok (.aload_n 0, 1) := by decide +kernel
theorem dX6_runs_34 : decode cX6_runs 34 = .ok (.iload_n 1, 1) := by decide +kernel
theorem dX6_runs_35 : decode cX6_runs 35 = .ok (.iconst 0, 1) := by decide +kernel
theorem dX6_runs_36 : decode cX6_runs 36 = .ok (.invokevirtual 69, 3) := by decide +kernel
theorem dX6_runs_39 : decode cX6_runs 39 = .ok (.tableswitch 63 2 5 #[29, 32, 39, 54], 29) := by decide +kernel
theorem dX6_runs_68 : decode cX6_runs 68 = .ok (.iload 4, 2) := by decide +kernel
theorem dX6_runs_70 : decode cX6_runs 70 = .ok (.ireturn, 1) := by decide +kernel
theorem dX6_runs_71 : decode cX6_runs 71 = .ok (.iload_n 3, 1) := by decide +kernel
theorem dX6_runs_72 : decode cX6_runs 72 = .ok (.iload_n 2, 1) := by decide +kernel
theorem dX6_runs_73 : decode cX6_runs 73 = .ok (.bipush 7, 2) := by decide +kernel
theorem dX6_runs_75 : decode cX6_runs 75 = .ok (.idiv, 1) := by decide +kernel
theorem dX6_runs_76 : decode cX6_runs 76 = .ok (.iadd, 1) := by decide +kernel
theorem dX6_runs_77 : decode cX6_runs 77 = .ok (.ireturn, 1) := by decide +kernel
theorem dX6_runs_78 : decode cX6_runs 78 = .ok (.iload 4, 2) := by decide +kernel
theorem dX6_runs_80 : decode cX6_runs 80 = .ok (.iload 4, 2) := by decide +kernel
theorem dX6_runs_82 : decode cX6_runs 82 = .ok (.aload_n 0, 1) := by decide +kernel
theorem dX6_runs_83 : decode cX6_runs 83 = .ok (.iload_n 1, 1) := by decide +kernel
theorem dX6_runs_84 : decode cX6_runs 84 = .ok (.iconst 2, 1) := by decide +kernel
theorem dX6_runs_85 : decode cX6_runs 85 = .ok (.invokevirtual 69, 3) := by decide +kernel
theorem dX6_runs_88 : decode cX6_runs 88 = .ok (.idiv, 1) := by decide +kernel
theorem dX6_runs_89 : decode cX6_runs 89 = .ok (.iconst 4, 1) := by decide +kernel
theorem dX6_runs_90 : decode cX6_runs 90 = .ok (.idiv, 1) := by decide +kernel
theorem dX6_runs_91 : decode cX6_runs 91 = .ok (.iadd, 1) := by decide +kernel
theorem dX6_runs_92 : decode cX6_runs 92 = .ok (.ireturn, 1) := by decide +kernel
theorem dX6_runs_93 : decode cX6_runs 93 = .ok (.iload_n 3, 1) := by decide +kernel
theorem dX6_runs_94 : decode cX6_runs 94 = .ok (.iload_n 2, 1) := by decide +kernel
theorem dX6_runs_95 : decode cX6_runs 95 = .ok (.iconst 5, 1) := by decide +kernel
theorem dX6_runs_96 : decode cX6_runs 96 = .ok (.iadd, 1) := by decide +kernel
theorem dX6_runs_97 : decode cX6_runs 97 = .ok (.bipush 7, 2) := by decide +kernel
theorem dX6_runs_99 : decode cX6_runs 99 = .ok (.idiv, 1) := by decide +kernel
theorem dX6_runs_100 : decode cX6_runs 100 = .ok (.isub, 1) := by decide +kernel
theorem dX6_runs_101 : decode cX6_runs 101 = .ok (.ireturn, 1) := by decide +kernel
theorem dX6_runs_102 : decode cX6_runs 102 = .ok (.iload_n 3, 1) := by decide +kernel
theorem dX6_runs_103 : decode cX6_runs 103 = .ok (.ireturn, 1) := by decide +kernel
theorem dX6_dateOf_0 : decode cX6_dateOf 0 = .ok (.aload_n 0, 1) := by decide +kernel
theorem dX6_dateOf_1 : decode cX6_dateOf 1 = .ok (.iload_n 1, 1) := by decide +kernel
theorem dX6_dateOf_2 : decode cX6_dateOf 2 = .ok (.iload_n 2, 1) := by decide +kernel
theorem dX6_dateOf_3 : decode cX6_dateOf 3 = .ok (.invokevirtual 89, 3) := by decide +kernel
theorem dX6_dateOf_6 : decode cX6_dateOf 6 = .ok (.aload_n 0, 1) := by decide +kernel
theorem dX6_dateOf_7 : decode cX6_dateOf 7 = .ok (.iload_n 1, 1) := by decide +kernel
theorem dX6_dateOf_8 : decode cX6_dateOf 8 = .ok (.iconst 2, 1) := by decide +kernel
theorem dX6_dateOf_9 : decode cX6_dateOf 9 = .ok (.invokevirtual 69, 3) := by decide +kernel
theorem dX6_dateOf_12 : decode cX6_dateOf 12 = .ok (.irem, 1) := by decide +kernel
theorem dX6_dateOf_13 : decode cX6_dateOf 13 = .ok (.iconst 1, 1) := by decide +kernel
theorem dX6_dateOf_14 : decode cX6_dateOf 14 = .ok (.iadd, 1) := by decide +kernel
theorem dX6_dateOf_15 : decode cX6_dateOf 15 = .ok (.ireturn, 1) := by decide +kernel
theorem dX6_monthOf_0 : decode cX6_monthOf 0 = .ok (.aload_n 0, 1) := by decide +kernel
theorem dX6_monthOf_1 : decode cX6_monthOf 1 = .ok (.iload_n 1, 1) := by decide +kernel
theorem dX6_monthOf_2 : decode cX6_monthOf 2 = .ok (.iload_n 2, 1) := by decide +kernel
theorem dX6_monthOf_3 : decode cX6_monthOf 3 = .ok (.invokevirtual 89, 3) := by decide +kernel
theorem dX6_monthOf_6 : decode cX6_monthOf 6 = .ok (.aload_n 0, 1) := by decide +kernel
theorem dX6_monthOf_7 : decode cX6_monthOf 7 = .ok (.iload_n 1, 1) := by decide +kernel
theorem dX6_monthOf_8 : decode cX6_monthOf 8 = .ok (.iconst 2, 1) := by decide +kernel
theorem dX6_monthOf_9 : decode cX6_monthOf 9 = .ok (.invokevirtual 69, 3) := by decide +kernel
theorem dX6_monthOf_12 : decode cX6_monthOf 12 = .ok (.idiv, 1) := by decide +kernel
theorem dX6_monthOf_13 : decode cX6_monthOf 13 = .ok (.ireturn, 1) := by decide +kernel
theorem dX6_isHoly_0 : decode cX6_isHoly 0 = .ok (.aload_n 0, 1) := by decide +kernel
theorem dX6_isHoly_1 : decode cX6_isHoly 1 = .ok (.iload_n 1, 1) := by decide +kernel
theorem dX6_isHoly_2 : decode cX6_isHoly 2 = .ok (.invokevirtual 46, 3) := by decide +kernel
theorem dX6_isHoly_5 : decode cX6_isHoly 5 = .ok (.ifCond .ne 5, 3) := by decide +kernel
theorem dX6_isHoly_8 : decode cX6_isHoly 8 = .ok (.iconst 0, 1) := by decide +kernel
theorem dX6_isHoly_9 : decode cX6_isHoly 9 = .ok (.ireturn, 1) := by decide +kernel
theorem dX6_isHoly_10 : decode cX6_isHoly 10 = .ok (.aload_n 0, 1) := by decide +kernel
theorem dX6_isHoly_11 : decode cX6_isHoly 11 = .ok (.iload_n 1, 1) := by decide +kernel
theorem dX6_isHoly_12 : decode cX6_isHoly 12 = .ok (.iload_n 2, 1) := by decide +kernel
theorem dX6_isHoly_13 : decode cX6_isHoly 13 = .ok (.invokevirtual 92, 3) := by decide +kernel
theorem dX6_isHoly_16 : decode cX6_isHoly 16 = .ok (.istore_n 3, 1) := by decide +kernel
theorem dX6_isHoly_17 : decode cX6_isHoly 17 = .ok (.aload_n 0, 1) := by decide +kernel
theorem dX6_isHoly_18 : decode cX6_isHoly 18 = .ok (.iload_n 1, 1) := by decide +kernel
theorem dX6_isHoly_19 : decode cX6_isHoly 19 = .ok (.iconst 0, 1) := by decide +kernel
theorem dX6_isHoly_20 : decode cX6_isHoly 20 = .ok (.invokevirtual 69, 3) := by decide +kernel
theorem dX6_isHoly_23 : decode cX6_isHoly 23 = .ok (.tableswitch 81 3 5 #[25, 44, 61], 25) := by decide +kernel
theorem dX6_isHoly_48 : decode cX6_isHoly 48 = .ok (.iload_n 3, 1) := by decide +kernel
theorem dX6_isHoly_49 : decode cX6_isHoly 49 = .ok (.aload_n 0, 1) := by decide +kernel
theorem dX6_isHoly_50 : decode cX6_isHoly 50 = .ok (.iload_n 1, 1) := by decide +kernel
theorem dX6_isHoly_51 : decode cX6_isHoly 51 = .ok (.iload_n 2, 1) := by decide +kernel
theorem dX6_isHoly_52 : decode cX6_isHoly 52 = .ok (.invokevirtual 95, 3) := by decide +kernel
theorem dX6_isHoly_55 : decode cX6_isHoly 55 = .ok (.iadd, 1) := by decide +kernel
theorem dX6_isHoly_56 : decode cX6_isHoly 56 = .ok (.iconst 2, 1) := by decide +kernel
theorem dX6_isHoly_57 : decode cX6_isHoly 57 = .ok (.irem, 1) := by decide +kernel
theorem dX6_isHoly_58 : decode cX6_isHoly 58 = .ok (.ifCond .ne 7, 3) := by decide +kernel
theorem dX6_isHoly_61 : decode cX6_isHoly 61 = .ok (.iconst 1, 1) := by decide +kernel
theorem dX6_isHoly_62 : decode cX6_isHoly 62 = .ok (.goto 4, 3) := by decide +kernel
theorem dX6_isHoly_65 : decode cX6_isHoly 65 = .ok (.iconst 0, 1) := by decide +kernel
theorem dX6_isHoly_66 : decode cX6_isHoly 66 = .ok (.ireturn, 1) := by decide +kernel
theorem dX6_isHoly_67 : decode cX6_isHoly 67 = .ok (.iload_n 3, 1) := by decide +kernel
theorem dX6_isHoly_68 : decode cX6_isHoly 68 = .ok (.iconst 2, 1) := by decide +kernel
theorem dX6_isHoly_69 : decode cX6_isHoly 69 = .ok (.irem, 1) := by decide +kernel
theorem dX6_isHoly_70 : decode cX6_isHoly 70 = .ok (.ifCond .eq 8, 3) := by decide +kernel
theorem dX6_isHoly_73 : decode cX6_isHoly 73 = .ok (.iload_n 3, 1) := by decide +kernel
theorem dX6_isHoly_74 : decode cX6_isHoly 74 = .ok (.iconst 1, 1) := by decide +kernel
theorem dX6_isHoly_75 : decode cX6_isHoly 75 = .ok (.if_icmp .ne 7, 3) := by decide +kernel
theorem dX6_isHoly_78 : decode cX6_isHoly 78 = .ok (.iconst 1, 1) := by decide +kernel
theorem dX6_isHoly_79 : decode cX6_isHoly 79 = .ok (.goto 4, 3) := by decide +kernel
theorem dX6_isHoly_82 : decode cX6_isHoly 82 = .ok (.iconst 0, 1) := by decide +kernel
theorem dX6_isHoly_83 : decode cX6_isHoly 83 = .ok (.ireturn, 1) := by decide +kernel
theorem dX6_isHoly_84 : decode cX6_isHoly 84 = .ok (.iload_n 3, 1) := by decide +kernel
theorem dX6_isHoly_85 : decode cX6_isHoly 85 = .ok (.iconst 2, 1) := by decide +kernel
theorem dX6_isHoly_86 : decode cX6_isHoly 86 = .ok (.irem, 1) := by decide +kernel
theorem dX6_isHoly_87 : decode cX6_isHoly 87 = .ok (.ifCond .ne 15, 3) := by decide +kernel
theorem dX6_isHoly_90 : decode cX6_isHoly 90 = .ok (.iload_n 2, 1) := by decide +kernel
theorem dX6_isHoly_91 : decode cX6_isHoly 91 = .ok (.bipush 7, 2) := by decide +kernel
theorem dX6_isHoly_93 : decode cX6_isHoly 93 = .ok (.irem, 1) := by decide +kernel
theorem dX6_isHoly_94 : decode cX6_isHoly 94 = .ok (.iconst 2, 1) := by decide +kernel
theorem dX6_isHoly_95 : decode cX6_isHoly 95 = .ok (.if_icmp .eq 7, 3) := by decide +kernel
theorem dX6_isHoly_98 : decode cX6_isHoly 98 = .ok (.iconst 1, 1) := by decide +kernel
theorem dX6_isHoly_99 : decode cX6_isHoly 99 = .ok (.goto 4, 3) := by decide +kernel
theorem dX6_isHoly_102 : decode cX6_isHoly 102 = .ok (.iconst 0, 1) := by decide +kernel
theorem dX6_isHoly_103 : decode cX6_isHoly 103 = .ok (.ireturn, 1) := by decide +kernel
theorem dX6_isHoly_104 : decode cX6_isHoly 104 = .ok (.iload_n 3, 1) := by decide +kernel
theorem dX6_isHoly_105 : decode cX6_isHoly 105 = .ok (.iconst 2, 1) := by decide +kernel
theorem dX6_isHoly_106 : decode cX6_isHoly 106 = .ok (.irem, 1) := by decide +kernel
theorem dX6_isHoly_107 : decode cX6_isHoly 107 = .ok (.ifCond .ne 7, 3) := by decide +kernel
theorem dX6_isHoly_110 : decode cX6_isHoly 110 = .ok (.iconst 1, 1) := by decide +kernel
theorem dX6_isHoly_111 : decode cX6_isHoly 111 = .ok (.goto 4, 3) := by decide +kernel
theorem dX6_isHoly_114 : decode cX6_isHoly 114 = .ok (.iconst 0, 1) := by decide +kernel
theorem dX6_isHoly_115 : decode cX6_isHoly 115 = .ok (.ireturn, 1) := by decide +kernel
theorem dX6_date_0 : decode cX6_date 0 = .ok (.aload_n 0, 1) := by decide +kernel
theorem dX6_date_1 : decode cX6_date 1 = .ok (.iload_n 1, 1) := by decide +kernel
theorem dX6_date_2 : decode cX6_date 2 = .ok (.invokevirtual 46, 3) := by decide +kernel
theorem dX6_date_5 : decode cX6_date 5 = .ok (.ifCond .eq 27, 3) := by decide +kernel
theorem dX6_date_8 : decode cX6_date 8 = .ok (.iload_n 2, 1) := by decide +kernel
theorem dX6_date_9 : decode cX6_date 9 = .ok (.i2l, 1) := by decide +kernel
theorem dX6_date_10 : decode cX6_date 10 = .ok (.lconst 0, 1) := by decide +kernel
theorem dX6_date_11 : decode cX6_date 11 = .ok (.ldc2_w 98, 3) := by decide +kernel
theorem dX6_date_14 : decode cX6_date 14 = .ok (.invokestatic 42, 3) := by decide +kernel
theorem dX6_date_17 : decode cX6_date 17 = .ok (.ifCond .eq 15, 3) := by decide +kernel
theorem dX6_date_20 : decode cX6_date 20 = .ok (.iload_n 3, 1) := by decide +kernel
theorem dX6_date_21 : decode cX6_date 21 = .ok (.i2l, 1) := by decide +kernel
theorem dX6_date_22 : decode cX6_date 22 = .ok (.lconst 0, 1) := by decide +kernel
theorem dX6_date_23 : decode cX6_date 23 = .ok (.ldc2_w 100, 3) := by decide +kernel
theorem dX6_date_26 : decode cX6_date 26 = .ok (.invokestatic 42, 3) := by decide +kernel
theorem dX6_date_29 : decode cX6_date 29 = .ok (.ifCond .ne 10, 3) := by decide +kernel
theorem dX6_date_32 : decode cX6_date 32 = .ok (.aload_n 0, 1) := by decide +kernel
theorem dX6_date_33 : decode cX6_date 33 = .ok (.ldc 41, 2) := by decide +kernel
theorem dX6_date_35 : decode cX6_date 35 = .ok (.invokevirtual 59, 3) := by decide +kernel
theorem dX6_date_38 : decode cX6_date 38 = .ok (.ireturn, 1) := by decide +kernel
theorem dX6_date_39 : decode cX6_date 39 = .ok (.iload_n 3, 1) := by decide +kernel
theorem dX6_date_40 : decode cX6_date 40 = .ok (.tableswitch 57 0 2 #[28, 35, 42], 28) := by decide +kernel
theorem dX6_date_68 : decode cX6_date 68 = .ok (.aload_n 0, 1) := by decide +kernel
theorem dX6_date_69 : decode cX6_date 69 = .ok (.iload_n 1, 1) := by decide +kernel
theorem dX6_date_70 : decode cX6_date 70 = .ok (.iload_n 2, 1) := by decide +kernel
theorem dX6_date_71 : decode cX6_date 71 = .ok (.invokevirtual 92, 3) := by decide +kernel
theorem dX6_date_74 : decode cX6_date 74 = .ok (.ireturn, 1) := by decide +kernel
theorem dX6_date_75 : decode cX6_date 75 = .ok (.aload_n 0, 1) := by decide +kernel
theorem dX6_date_76 : decode cX6_date 76 = .ok (.iload_n 1, 1) := by decide +kernel
theorem dX6_date_77 : decode cX6_date 77 = .ok (.iload_n 2, 1) := by decide +kernel
theorem dX6_date_78 : decode cX6_date 78 = .ok (.invokevirtual 95, 3) := by decide +kernel
theorem dX6_date_81 : decode cX6_date 81 = .ok (.ireturn, 1) := by decide +kernel
theorem dX6_date_82 : decode cX6_date 82 = .ok (.aload_n 0, 1) := by decide +kernel
theorem dX6_date_83 : decode cX6_date 83 = .ok (.iload_n 1, 1) := by decide +kernel
theorem dX6_date_84 : decode cX6_date 84 = .ok (.iload_n 2, 1) := by decide +kernel
theorem dX6_date_85 : decode cX6_date 85 = .ok (.invokevirtual 102, 3) := by decide +kernel
theorem dX6_date_88 : decode cX6_date 88 = .ok (.ifCond .eq 7, 3) := by decide +kernel
theorem dX6_date_91 : decode cX6_date 91 = .ok (.iconst 1, 1) := by decide +kernel
theorem dX6_date_92 : decode cX6_date 92 = .ok (.goto 4, 3) := by decide +kernel
theorem dX6_date_95 : decode cX6_date 95 = .ok (.iconst 0, 1) := by decide +kernel
theorem dX6_date_96 : decode cX6_date 96 = .ok (.ireturn, 1) := by decide +kernel
theorem dX6_date_97 : decode cX6_date 97 = .ok (.aload_n 0, 1) := by decide +kernel
theorem dX6_date_98 : decode cX6_date 98 = .ok (.iload_n 1, 1) := by decide +kernel
theorem dX6_date_99 : decode cX6_date 99 = .ok (.iload_n 2, 1) := by decide +kernel
theorem dX6_date_100 : decode cX6_date 100 = .ok (.invokevirtual 89, 3) := by decide +kernel
theorem dX6_date_103 : decode cX6_date 103 = .ok (.ireturn, 1) := by decide +kernel
theorem dX6_law_0 : decode cX6_law 0 = .ok (.iload_n 1, 1) := by decide +kernel
theorem dX6_law_1 : decode cX6_law 1 = .ok (.ifCond .ne 15, 3) := by decide +kernel
theorem dX6_law_4 : decode cX6_law 4 = .ok (.iload_n 2, 1) := by decide +kernel
theorem dX6_law_5 : decode cX6_law 5 = .ok (.i2l, 1) := by decide +kernel
theorem dX6_law_6 : decode cX6_law 6 = .ok (.lconst 1, 1) := by decide +kernel
theorem dX6_law_7 : decode cX6_law 7 = .ok (.ldc2_w 105, 3) := by decide +kernel
theorem dX6_law_10 : decode cX6_law 10 = .ok (.invokestatic 42, 3) := by decide +kernel
theorem dX6_law_13 : decode cX6_law 13 = .ok (.goto 25, 3) := by decide +kernel
theorem dX6_law_16 : decode cX6_law 16 = .ok (.iload_n 1, 1) := by decide +kernel
theorem dX6_law_17 : decode cX6_law 17 = .ok (.iconst 1, 1) := by decide +kernel
theorem dX6_law_18 : decode cX6_law 18 = .ok (.if_icmp .ne 19, 3) := by decide +kernel
theorem dX6_law_21 : decode cX6_law 21 = .ok (.iload_n 2, 1) := by decide +kernel
theorem dX6_law_22 : decode cX6_law 22 = .ok (.i2l, 1) := by decide +kernel
theorem dX6_law_23 : decode cX6_law 23 = .ok (.lconst 0, 1) := by decide +kernel
theorem dX6_law_24 : decode cX6_law 24 = .ok (.ldc2_w 50, 3) := by decide +kernel
theorem dX6_law_27 : decode cX6_law 27 = .ok (.invokestatic 42, 3) := by decide +kernel
theorem dX6_law_30 : decode cX6_law 30 = .ok (.ifCond .eq 7, 3) := by decide +kernel
theorem dX6_law_33 : decode cX6_law 33 = .ok (.iconst 1, 1) := by decide +kernel
theorem dX6_law_34 : decode cX6_law 34 = .ok (.goto 4, 3) := by decide +kernel
theorem dX6_law_37 : decode cX6_law 37 = .ok (.iconst 0, 1) := by decide +kernel
theorem dX6_law_38 : decode cX6_law 38 = .ok (.istore_n 3, 1) := by decide +kernel
theorem dX6_law_39 : decode cX6_law 39 = .ok (.iload_n 3, 1) := by decide +kernel
theorem dX6_law_40 : decode cX6_law 40 = .ok (.ifCond .eq 20, 3) := by decide +kernel
theorem dX6_law_43 : decode cX6_law 43 = .ok (.aload_n 0, 1) := by decide +kernel
theorem dX6_law_44 : decode cX6_law 44 = .ok (.iload_n 1, 1) := by decide +kernel
theorem dX6_law_45 : decode cX6_law 45 = .ok (.ifCond .ne 7, 3) := by decide +kernel
theorem dX6_law_48 : decode cX6_law 48 = .ok (.iconst 3, 1) := by decide +kernel
theorem dX6_law_49 : decode cX6_law 49 = .ok (.goto 4, 3) := by decide +kernel
theorem dX6_law_52 : decode cX6_law 52 = .ok (.iconst 4, 1) := by decide +kernel
theorem dX6_law_53 : decode cX6_law 53 = .ok (.iload_n 2, 1) := by decide +kernel
theorem dX6_law_54 : decode cX6_law 54 = .ok (.invokevirtual 82, 3) := by decide +kernel
theorem dX6_law_57 : decode cX6_law 57 = .ok (.goto 9, 3) := by decide +kernel
theorem dX6_law_60 : decode cX6_law 60 = .ok (.aload_n 0, 1) := by decide +kernel
theorem dX6_law_61 : decode cX6_law 61 = .ok (.ldc 41, 2) := by decide +kernel
theorem dX6_law_63 : decode cX6_law 63 = .ok (.invokevirtual 59, 3) := by decide +kernel
theorem dX6_law_66 : decode cX6_law 66 = .ok (.ireturn, 1) := by decide +kernel
theorem dX6_comes_0 : decode cX6_comes 0 = .ok (.aload_n 0, 1) := by decide +kernel
theorem dX6_comes_1 : decode cX6_comes 1 = .ok (.getfield 7, 3) := by decide +kernel
theorem dX6_comes_4 : decode cX6_comes 4 = .ok (.iconst 1, 1) := by decide +kernel
theorem dX6_comes_5 : decode cX6_comes 5 = .ok (.iaload, 1) := by decide +kernel
theorem dX6_comes_6 : decode cX6_comes 6 = .ok (.istore_n 3, 1) := by decide +kernel
theorem dX6_comes_7 : decode cX6_comes 7 = .ok (.aload_n 0, 1) := by decide +kernel
theorem dX6_comes_8 : decode cX6_comes 8 = .ok (.getfield 7, 3) := by decide +kernel
theorem dX6_comes_11 : decode cX6_comes 11 = .ok (.iload_n 3, 1) := by decide +kernel
theorem dX6_comes_12 : decode cX6_comes 12 = .ok (.iconst 0, 1) := by decide +kernel
theorem dX6_comes_13 : decode cX6_comes 13 = .ok (.invokestatic 52, 3) := by decide +kernel
theorem dX6_comes_16 : decode cX6_comes 16 = .ok (.iload_n 1, 1) := by decide +kernel
theorem dX6_comes_17 : decode cX6_comes 17 = .ok (.iastore, 1) := by decide +kernel
theorem dX6_comes_18 : decode cX6_comes 18 = .ok (.aload_n 0, 1) := by decide +kernel
theorem dX6_comes_19 : decode cX6_comes 19 = .ok (.getfield 7, 3) := by decide +kernel
theorem dX6_comes_22 : decode cX6_comes 22 = .ok (.iload_n 3, 1) := by decide +kernel
theorem dX6_comes_23 : decode cX6_comes 23 = .ok (.iconst 1, 1) := by decide +kernel
theorem dX6_comes_24 : decode cX6_comes 24 = .ok (.invokestatic 52, 3) := by decide +kernel
theorem dX6_comes_27 : decode cX6_comes 27 = .ok (.iload_n 2, 1) := by decide +kernel
theorem dX6_comes_28 : decode cX6_comes 28 = .ok (.iastore, 1) := by decide +kernel
theorem dX6_comes_29 : decode cX6_comes 29 = .ok (.aload_n 0, 1) := by decide +kernel
theorem dX6_comes_30 : decode cX6_comes 30 = .ok (.getfield 7, 3) := by decide +kernel
theorem dX6_comes_33 : decode cX6_comes 33 = .ok (.iload_n 3, 1) := by decide +kernel
theorem dX6_comes_34 : decode cX6_comes 34 = .ok (.iconst 2, 1) := by decide +kernel
theorem dX6_comes_35 : decode cX6_comes 35 = .ok (.invokestatic 52, 3) := by decide +kernel
theorem dX6_comes_38 : decode cX6_comes 38 = .ok (.iconst 0, 1) := by decide +kernel
theorem dX6_comes_39 : decode cX6_comes 39 = .ok (.iastore, 1) := by decide +kernel
theorem dX6_comes_40 : decode cX6_comes 40 = .ok (.aload_n 0, 1) := by decide +kernel
theorem dX6_comes_41 : decode cX6_comes 41 = .ok (.getfield 7, 3) := by decide +kernel
theorem dX6_comes_44 : decode cX6_comes 44 = .ok (.iconst 1, 1) := by decide +kernel
theorem dX6_comes_45 : decode cX6_comes 45 = .ok (.dup2, 1) := by decide +kernel
theorem dX6_comes_46 : decode cX6_comes 46 = .ok (.iaload, 1) := by decide +kernel
theorem dX6_comes_47 : decode cX6_comes 47 = .ok (.iconst 1, 1) := by decide +kernel
theorem dX6_comes_48 : decode cX6_comes 48 = .ok (.iadd, 1) := by decide +kernel
theorem dX6_comes_49 : decode cX6_comes 49 = .ok (.iastore, 1) := by decide +kernel
theorem dX6_comes_50 : decode cX6_comes 50 = .ok (.iload_n 3, 1) := by decide +kernel
theorem dX6_comes_51 : decode cX6_comes 51 = .ok (.ireturn, 1) := by decide +kernel
theorem dX6_isTrust_0 : decode cX6_isTrust 0 = .ok (.iload_n 1, 1) := by decide +kernel
theorem dX6_isTrust_1 : decode cX6_isTrust 1 = .ok (.iconst (-1), 1) := by decide +kernel
theorem dX6_isTrust_2 : decode cX6_isTrust 2 = .ok (.if_icmp .eq 11, 3) := by decide +kernel
theorem dX6_isTrust_5 : decode cX6_isTrust 5 = .ok (.aload_n 0, 1) := by decide +kernel
theorem dX6_isTrust_6 : decode cX6_isTrust 6 = .ok (.iload_n 1, 1) := by decide +kernel
theorem dX6_isTrust_7 : decode cX6_isTrust 7 = .ok (.invokevirtual 46, 3) := by decide +kernel
theorem dX6_isTrust_10 : decode cX6_isTrust 10 = .ok (.ifCond .eq 7, 3) := by decide +kernel
theorem dX6_isTrust_13 : decode cX6_isTrust 13 = .ok (.iconst 1, 1) := by decide +kernel
theorem dX6_isTrust_14 : decode cX6_isTrust 14 = .ok (.goto 4, 3) := by decide +kernel
theorem dX6_isTrust_17 : decode cX6_isTrust 17 = .ok (.iconst 0, 1) := by decide +kernel
theorem dX6_isTrust_18 : decode cX6_isTrust 18 = .ok (.ireturn, 1) := by decide +kernel
theorem dX6_pilgrim_0 : decode cX6_pilgrim 0 = .ok (.iload_n 1, 1) := by decide +kernel
theorem dX6_pilgrim_1 : decode cX6_pilgrim 1 = .ok (.i2l, 1) := by decide +kernel
theorem dX6_pilgrim_2 : decode cX6_pilgrim 2 = .ok (.lconst 0, 1) := by decide +kernel
theorem dX6_pilgrim_3 : decode cX6_pilgrim 3 = .ok (.ldc2_w 76, 3) := by decide +kernel
theorem dX6_pilgrim_6 : decode cX6_pilgrim 6 = .ok (.invokestatic 42, 3) := by decide +kernel
theorem dX6_pilgrim_9 : decode cX6_pilgrim 9 = .ok (.ifCond .eq 11, 3) := by decide +kernel
theorem dX6_pilgrim_12 : decode cX6_pilgrim 12 = .ok (.aload_n 0, 1) := by decide +kernel
theorem dX6_pilgrim_13 : decode cX6_pilgrim 13 = .ok (.iload_n 2, 1) := by decide +kernel
theorem dX6_pilgrim_14 : decode cX6_pilgrim 14 = .ok (.invokevirtual 107, 3) := by decide +kernel
theorem dX6_pilgrim_17 : decode cX6_pilgrim 17 = .ok (.ifCond .ne 10, 3) := by decide +kernel
theorem dX6_pilgrim_20 : decode cX6_pilgrim 20 = .ok (.aload_n 0, 1) := by decide +kernel
theorem dX6_pilgrim_21 : decode cX6_pilgrim 21 = .ok (.ldc 41, 2) := by decide +kernel
theorem dX6_pilgrim_23 : decode cX6_pilgrim 23 = .ok (.invokevirtual 59, 3) := by decide +kernel
theorem dX6_pilgrim_26 : decode cX6_pilgrim 26 = .ok (.ireturn, 1) := by decide +kernel
theorem dX6_pilgrim_27 : decode cX6_pilgrim 27 = .ok (.aload_n 0, 1) := by decide +kernel
theorem dX6_pilgrim_28 : decode cX6_pilgrim 28 = .ok (.getfield 7, 3) := by decide +kernel
theorem dX6_pilgrim_31 : decode cX6_pilgrim 31 = .ok (.iconst 1, 1) := by decide +kernel
theorem dX6_pilgrim_32 : decode cX6_pilgrim 32 = .ok (.iaload, 1) := by decide +kernel
theorem dX6_pilgrim_33 : decode cX6_pilgrim 33 = .ok (.bipush 8, 2) := by decide +kernel
theorem dX6_pilgrim_35 : decode cX6_pilgrim 35 = .ok (.if_icmp .ne 12, 3) := by decide +kernel
theorem dX6_pilgrim_38 : decode cX6_pilgrim 38 = .ok (.aload_n 0, 1) := by decide +kernel
theorem dX6_pilgrim_39 : decode cX6_pilgrim 39 = .ok (.ldc 63, 2) := by decide +kernel
theorem dX6_pilgrim_41 : decode cX6_pilgrim 41 = .ok (.invokevirtual 59, 3) := by decide +kernel
theorem dX6_pilgrim_44 : decode cX6_pilgrim 44 = .ok (.goto 9, 3) := by decide +kernel
theorem dX6_pilgrim_47 : decode cX6_pilgrim 47 = .ok (.aload_n 0, 1) := by decide +kernel
theorem dX6_pilgrim_48 : decode cX6_pilgrim 48 = .ok (.iload_n 1, 1) := by decide +kernel
theorem dX6_pilgrim_49 : decode cX6_pilgrim 49 = .ok (.iload_n 2, 1) := by decide +kernel
theorem dX6_pilgrim_50 : decode cX6_pilgrim 50 = .ok (.invokevirtual 110, 3) := by decide +kernel
theorem dX6_pilgrim_53 : decode cX6_pilgrim 53 = .ok (.ireturn, 1) := by decide +kernel
theorem dX6_about_0 : decode cX6_about 0 = .ok (.aload_n 0, 1) := by decide +kernel
theorem dX6_about_1 : decode cX6_about 1 = .ok (.iload_n 1, 1) := by decide +kernel
theorem dX6_about_2 : decode cX6_about 2 = .ok (.invokevirtual 113, 3) := by decide +kernel
theorem dX6_about_5 : decode cX6_about 5 = .ok (.ifCond .eq 24, 3) := by decide +kernel
theorem dX6_about_8 : decode cX6_about 8 = .ok (.iload_n 2, 1) := by decide +kernel
theorem dX6_about_9 : decode cX6_about 9 = .ok (.i2l, 1) := by decide +kernel
theorem dX6_about_10 : decode cX6_about 10 = .ok (.lconst 0, 1) := by decide +kernel
theorem dX6_about_11 : decode cX6_about 11 = .ok (.ldc2_w 116, 3) := by decide +kernel
theorem dX6_about_14 : decode cX6_about 14 = .ok (.invokestatic 42, 3) := by decide +kernel
theorem dX6_about_17 : decode cX6_about 17 = .ok (.ifCond .eq 12, 3) := by decide +kernel
theorem dX6_about_20 : decode cX6_about 20 = .ok (.aload_n 0, 1) := by decide +kernel
theorem dX6_about_21 : decode cX6_about 21 = .ok (.iload_n 1, 1) := by decide +kernel
theorem dX6_about_22 : decode cX6_about 22 = .ok (.iload_n 2, 1) := by decide +kernel
theorem dX6_about_23 : decode cX6_about 23 = .ok (.invokevirtual 118, 3) := by decide +kernel
theorem dX6_about_26 : decode cX6_about 26 = .ok (.goto 9, 3) := by decide +kernel
theorem dX6_about_29 : decode cX6_about 29 = .ok (.aload_n 0, 1) := by decide +kernel
theorem dX6_about_30 : decode cX6_about 30 = .ok (.ldc 41, 2) := by decide +kernel
theorem dX6_about_32 : decode cX6_about 32 = .ok (.invokevirtual 59, 3) := by decide +kernel
theorem dX6_about_35 : decode cX6_about 35 = .ok (.ireturn, 1) := by decide +kernel
theorem dX6_mind_0 : decode cX6_mind 0 = .ok (.iload_n 2, 1) := by decide +kernel
theorem dX6_mind_1 : decode cX6_mind 1 = .ok (.ifCond .ne 15, 3) := by decide +kernel
theorem dX6_mind_4 : decode cX6_mind 4 = .ok (.iload_n 3, 1) := by decide +kernel
theorem dX6_mind_5 : decode cX6_mind 5 = .ok (.i2l, 1) := by decide +kernel
theorem dX6_mind_6 : decode cX6_mind 6 = .ok (.lconst 0, 1) := by decide +kernel
theorem dX6_mind_7 : decode cX6_mind 7 = .ok (.ldc2_w 76, 3) := by decide +kernel
theorem dX6_mind_10 : decode cX6_mind 10 = .ok (.invokestatic 42, 3) := by decide +kernel
theorem dX6_mind_13 : decode cX6_mind 13 = .ok (.goto 21, 3) := by decide +kernel
theorem dX6_mind_16 : decode cX6_mind 16 = .ok (.iload_n 2, 1) := by decide +kernel
theorem dX6_mind_17 : decode cX6_mind 17 = .ok (.iconst 1, 1) := by decide +kernel
theorem dX6_mind_18 : decode cX6_mind 18 = .ok (.if_icmp .ne 15, 3) := by decide +kernel
theorem dX6_mind_21 : decode cX6_mind 21 = .ok (.aload_n 0, 1) := by decide +kernel
theorem dX6_mind_22 : decode cX6_mind 22 = .ok (.iload_n 3, 1) := by decide +kernel
theorem dX6_mind_23 : decode cX6_mind 23 = .ok (.invokevirtual 107, 3) := by decide +kernel
theorem dX6_mind_26 : decode cX6_mind 26 = .ok (.ifCond .eq 7, 3) := by decide +kernel
theorem dX6_mind_29 : decode cX6_mind 29 = .ok (.iconst 1, 1) := by decide +kernel
theorem dX6_mind_30 : decode cX6_mind 30 = .ok (.goto 4, 3) := by decide +kernel
theorem dX6_mind_33 : decode cX6_mind 33 = .ok (.iconst 0, 1) := by decide +kernel
theorem dX6_mind_34 : decode cX6_mind 34 = .ok (.istore 4, 2) := by decide +kernel
theorem dX6_mind_36 : decode cX6_mind 36 = .ok (.aload_n 0, 1) := by decide +kernel
theorem dX6_mind_37 : decode cX6_mind 37 = .ok (.iload_n 1, 1) := by decide +kernel
theorem dX6_mind_38 : decode cX6_mind 38 = .ok (.invokevirtual 113, 3) := by decide +kernel
theorem dX6_mind_41 : decode cX6_mind 41 = .ok (.ifCond .eq 21, 3) := by decide +kernel
theorem dX6_mind_44 : decode cX6_mind 44 = .ok (.iload 4, 2) := by decide +kernel
theorem dX6_mind_46 : decode cX6_mind 46 = .ok (.ifCond .eq 16, 3) := by decide +kernel
theorem dX6_mind_49 : decode cX6_mind 49 = .ok (.aload_n 0, 1) := by decide +kernel
theorem dX6_mind_50 : decode cX6_mind 50 = .ok (.iload_n 1, 1) := by decide +kernel
theorem dX6_mind_51 : decode cX6_mind 51 = .ok (.iload_n 2, 1) := by decide +kernel
theorem dX6_mind_52 : decode cX6_mind 52 = .ok (.invokestatic 52, 3) := by decide +kernel
theorem dX6_mind_55 : decode cX6_mind 55 = .ok (.iload_n 3, 1) := by decide +kernel
theorem dX6_mind_56 : decode cX6_mind 56 = .ok (.invokevirtual 82, 3) := by decide +kernel
theorem dX6_mind_59 : decode cX6_mind 59 = .ok (.goto 9, 3) := by decide +kernel
theorem dX6_mind_62 : decode cX6_mind 62 = .ok (.aload_n 0, 1) := by decide +kernel
theorem dX6_mind_63 : decode cX6_mind 63 = .ok (.ldc 41, 2) := by decide +kernel
theorem dX6_mind_65 : decode cX6_mind 65 = .ok (.invokevirtual 59, 3) := by decide +kernel
theorem dX6_mind_68 : decode cX6_mind 68 = .ok (.ireturn, 1) := by decide +kernel
theorem dX6_helps_0 : decode cX6_helps 0 = .ok (.aload_n 0, 1) := by decide +kernel
theorem dX6_helps_1 : decode cX6_helps 1 = .ok (.iload_n 1, 1) := by decide +kernel
theorem dX6_helps_2 : decode cX6_helps 2 = .ok (.iconst 0, 1) := by decide +kernel
theorem dX6_helps_3 : decode cX6_helps 3 = .ok (.invokevirtual 118, 3) := by decide +kernel
theorem dX6_helps_6 : decode cX6_helps 6 = .ok (.iload_n 2, 1) := by decide +kernel
theorem dX6_helps_7 : decode cX6_helps 7 = .ok (.ifCond .eq 13, 3) := by decide +kernel
theorem dX6_helps_10 : decode cX6_helps 10 = .ok (.aload_n 0, 1) := by decide +kernel
theorem dX6_helps_11 : decode cX6_helps 11 = .ok (.getfield 7, 3) := by decide +kernel
theorem dX6_helps_14 : decode cX6_helps 14 = .ok (.iconst 3, 1) := by decide +kernel
theorem dX6_helps_15 : decode cX6_helps 15 = .ok (.iaload, 1) := by decide +kernel
theorem dX6_helps_16 : decode cX6_helps 16 = .ok (.ineg, 1) := by decide +kernel
theorem dX6_helps_17 : decode cX6_helps 17 = .ok (.goto 11, 3) := by decide +kernel
theorem dX6_helps_20 : decode cX6_helps 20 = .ok (.aload_n 0, 1) := by decide +kernel
theorem dX6_helps_21 : decode cX6_helps 21 = .ok (.getfield 7, 3) := by decide +kernel
theorem dX6_helps_24 : decode cX6_helps 24 = .ok (.iconst 3, 1) := by decide +kernel
theorem dX6_helps_25 : decode cX6_helps 25 = .ok (.iaload, 1) := by decide +kernel
theorem dX6_helps_26 : decode cX6_helps 26 = .ok (.iconst 2, 1) := by decide +kernel
theorem dX6_helps_27 : decode cX6_helps 27 = .ok (.idiv, 1) := by decide +kernel
theorem dX6_helps_28 : decode cX6_helps 28 = .ok (.iadd, 1) := by decide +kernel
theorem dX6_helps_29 : decode cX6_helps 29 = .ok (.istore_n 3, 1) := by decide +kernel
theorem dX6_helps_30 : decode cX6_helps 30 = .ok (.aload_n 0, 1) := by decide +kernel
theorem dX6_helps_31 : decode cX6_helps 31 = .ok (.getfield 7, 3) := by decide +kernel
theorem dX6_helps_34 : decode cX6_helps 34 = .ok (.iload_n 1, 1) := by decide +kernel
theorem dX6_helps_35 : decode cX6_helps 35 = .ok (.iconst 0, 1) := by decide +kernel
theorem dX6_helps_36 : decode cX6_helps 36 = .ok (.invokestatic 52, 3) := by decide +kernel
theorem dX6_helps_39 : decode cX6_helps 39 = .ok (.iload_n 3, 1) := by decide +kernel
theorem dX6_helps_40 : decode cX6_helps 40 = .ok (.ifCond .ge 7, 3) := by decide +kernel
theorem dX6_helps_43 : decode cX6_helps 43 = .ok (.iconst 0, 1) := by decide +kernel
theorem dX6_helps_44 : decode cX6_helps 44 = .ok (.goto 15, 3) := by decide +kernel
theorem dX6_helps_47 : decode cX6_helps 47 = .ok (.iload_n 3, 1) := by decide +kernel
theorem dX6_helps_48 : decode cX6_helps 48 = .ok (.bipush 99, 2) := by decide +kernel
theorem dX6_helps_50 : decode cX6_helps 50 = .ok (.if_icmp .le 8, 3) := by decide +kernel
theorem dX6_helps_53 : decode cX6_helps 53 = .ok (.bipush 99, 2) := by decide +kernel
theorem dX6_helps_55 : decode cX6_helps 55 = .ok (.goto 4, 3) := by decide +kernel
theorem dX6_helps_58 : decode cX6_helps 58 = .ok (.iload_n 3, 1) := by decide +kernel
theorem dX6_helps_59 : decode cX6_helps 59 = .ok (.iastore, 1) := by decide +kernel
theorem dX6_helps_60 : decode cX6_helps 60 = .ok (.return_, 1) := by decide +kernel
theorem dX6_drink_0 : decode cX6_drink 0 = .ok (.aload_n 0, 1) := by decide +kernel
theorem dX6_drink_1 : decode cX6_drink 1 = .ok (.iload_n 1, 1) := by decide +kernel
theorem dX6_drink_2 : decode cX6_drink 2 = .ok (.invokevirtual 113, 3) := by decide +kernel
theorem dX6_drink_5 : decode cX6_drink 5 = .ok (.ifCond .eq 13, 3) := by decide +kernel
theorem dX6_drink_8 : decode cX6_drink 8 = .ok (.iload_n 2, 1) := by decide +kernel
theorem dX6_drink_9 : decode cX6_drink 9 = .ok (.i2l, 1) := by decide +kernel
theorem dX6_drink_10 : decode cX6_drink 10 = .ok (.lconst 0, 1) := by decide +kernel
theorem dX6_drink_11 : decode cX6_drink 11 = .ok (.lconst 1, 1) := by decide +kernel
theorem dX6_drink_12 : decode cX6_drink 12 = .ok (.invokestatic 42, 3) := by decide +kernel
theorem dX6_drink_15 : decode cX6_drink 15 = .ok (.ifCond .ne 10, 3) := by decide +kernel
theorem dX6_drink_18 : decode cX6_drink 18 = .ok (.aload_n 0, 1) := by decide +kernel
theorem dX6_drink_19 : decode cX6_drink 19 = .ok (.ldc 41, 2) := by decide +kernel
theorem dX6_drink_21 : decode cX6_drink 21 = .ok (.invokevirtual 59, 3) := by decide +kernel
theorem dX6_drink_24 : decode cX6_drink 24 = .ok (.ireturn, 1) := by decide +kernel
theorem dX6_drink_25 : decode cX6_drink 25 = .ok (.iload_n 2, 1) := by decide +kernel
theorem dX6_drink_26 : decode cX6_drink 26 = .ok (.iconst 1, 1) := by decide +kernel
theorem dX6_drink_27 : decode cX6_drink 27 = .ok (.if_icmp .ne 7, 3) := by decide +kernel
theorem dX6_drink_30 : decode cX6_drink 30 = .ok (.iconst 5, 1) := by decide +kernel
theorem dX6_drink_31 : decode cX6_drink 31 = .ok (.goto 5, 3) := by decide +kernel
theorem dX6_drink_34 : decode cX6_drink 34 = .ok (.bipush 6, 2) := by decide +kernel
theorem dX6_drink_36 : decode cX6_drink 36 = .ok (.istore_n 3, 1) := by decide +kernel
theorem dX6_drink_37 : decode cX6_drink 37 = .ok (.aload_n 0, 1) := by decide +kernel
theorem dX6_drink_38 : decode cX6_drink 38 = .ok (.getfield 7, 3) := by decide +kernel
theorem dX6_drink_41 : decode cX6_drink 41 = .ok (.iload_n 3, 1) := by decide +kernel
theorem dX6_drink_42 : decode cX6_drink 42 = .ok (.iaload, 1) := by decide +kernel
theorem dX6_drink_43 : decode cX6_drink 43 = .ok (.ifCond .ne 10, 3) := by decide +kernel
theorem dX6_drink_46 : decode cX6_drink 46 = .ok (.aload_n 0, 1) := by decide +kernel
theorem dX6_drink_47 : decode cX6_drink 47 = .ok (.ldc 121, 2) := by decide +kernel
theorem dX6_drink_49 : decode cX6_drink 49 = .ok (.invokevirtual 59, 3) := by decide +kernel
theorem dX6_drink_52 : decode cX6_drink 52 = .ok (.ireturn, 1) := by decide +kernel
theorem dX6_drink_53 : decode cX6_drink 53 = .ok (.aload_n 0, 1) := by decide +kernel
theorem dX6_drink_54 : decode cX6_drink 54 = .ok (.getfield 7, 3) := by decide +kernel
theorem dX6_drink_57 : decode cX6_drink 57 = .ok (.iload_n 3, 1) := by decide +kernel
theorem dX6_drink_58 : decode cX6_drink 58 = .ok (.dup2, 1) := by decide +kernel
theorem dX6_drink_59 : decode cX6_drink 59 = .ok (.iaload, 1) := by decide +kernel
theorem dX6_drink_60 : decode cX6_drink 60 = .ok (.iconst 1, 1) := by decide +kernel
theorem dX6_drink_61 : decode cX6_drink 61 = .ok (.isub, 1) := by decide +kernel
theorem dX6_drink_62 : decode cX6_drink 62 = .ok (.iastore, 1) := by decide +kernel
theorem dX6_drink_63 : decode cX6_drink 63 = .ok (.aload_n 0, 1) := by decide +kernel
theorem dX6_drink_64 : decode cX6_drink 64 = .ok (.iload_n 1, 1) := by decide +kernel
theorem dX6_drink_65 : decode cX6_drink 65 = .ok (.iload_n 2, 1) := by decide +kernel
theorem dX6_drink_66 : decode cX6_drink 66 = .ok (.iconst 1, 1) := by decide +kernel
theorem dX6_drink_67 : decode cX6_drink 67 = .ok (.if_icmp .ne 7, 3) := by decide +kernel
theorem dX6_drink_70 : decode cX6_drink 70 = .ok (.iconst 1, 1) := by decide +kernel
theorem dX6_drink_71 : decode cX6_drink 71 = .ok (.goto 4, 3) := by decide +kernel
theorem dX6_drink_74 : decode cX6_drink 74 = .ok (.iconst 0, 1) := by decide +kernel
theorem dX6_drink_75 : decode cX6_drink 75 = .ok (.invokevirtual 122, 3) := by decide +kernel
theorem dX6_drink_78 : decode cX6_drink 78 = .ok (.aload_n 0, 1) := by decide +kernel
theorem dX6_drink_79 : decode cX6_drink 79 = .ok (.iload_n 1, 1) := by decide +kernel
theorem dX6_drink_80 : decode cX6_drink 80 = .ok (.iconst 0, 1) := by decide +kernel
theorem dX6_drink_81 : decode cX6_drink 81 = .ok (.invokevirtual 118, 3) := by decide +kernel
theorem dX6_drink_84 : decode cX6_drink 84 = .ok (.ireturn, 1) := by decide +kernel
theorem dX6_bathes_0 : decode cX6_bathes 0 = .ok (.aload_n 0, 1) := by decide +kernel
theorem dX6_bathes_1 : decode cX6_bathes 1 = .ok (.iload_n 1, 1) := by decide +kernel
theorem dX6_bathes_2 : decode cX6_bathes 2 = .ok (.aload_n 0, 1) := by decide +kernel
theorem dX6_bathes_3 : decode cX6_bathes 3 = .ok (.aload_n 0, 1) := by decide +kernel
theorem dX6_bathes_4 : decode cX6_bathes 4 = .ok (.getfield 7, 3) := by decide +kernel
theorem dX6_bathes_7 : decode cX6_bathes 7 = .ok (.iconst 4, 1) := by decide +kernel
theorem dX6_bathes_8 : decode cX6_bathes 8 = .ok (.iaload, 1) := by decide +kernel
theorem dX6_bathes_9 : decode cX6_bathes 9 = .ok (.aload_n 0, 1) := by decide +kernel
theorem dX6_bathes_10 : decode cX6_bathes 10 = .ok (.getfield 7, 3) := by decide +kernel
theorem dX6_bathes_13 : decode cX6_bathes 13 = .ok (.iconst 2, 1) := by decide +kernel
theorem dX6_bathes_14 : decode cX6_bathes 14 = .ok (.iaload, 1) := by decide +kernel
theorem dX6_bathes_15 : decode cX6_bathes 15 = .ok (.invokevirtual 102, 3) := by decide +kernel
theorem dX6_bathes_18 : decode cX6_bathes 18 = .ok (.invokevirtual 122, 3) := by decide +kernel
theorem dX6_bathes_21 : decode cX6_bathes 21 = .ok (.aload_n 0, 1) := by decide +kernel
theorem dX6_bathes_22 : decode cX6_bathes 22 = .ok (.getfield 7, 3) := by decide +kernel
theorem dX6_bathes_25 : decode cX6_bathes 25 = .ok (.iload_n 1, 1) := by decide +kernel
theorem dX6_bathes_26 : decode cX6_bathes 26 = .ok (.iconst 2, 1) := by decide +kernel
theorem dX6_bathes_27 : decode cX6_bathes 27 = .ok (.invokestatic 52, 3) := by decide +kernel
theorem dX6_bathes_30 : decode cX6_bathes 30 = .ok (.dup2, 1) := by decide +kernel
theorem dX6_bathes_31 : decode cX6_bathes 31 = .ok (.iaload, 1) := by decide +kernel
theorem dX6_bathes_32 : decode cX6_bathes 32 = .ok (.aload_n 0, 1) := by decide +kernel
theorem dX6_bathes_33 : decode cX6_bathes 33 = .ok (.iload_n 1, 1) := by decide +kernel
theorem dX6_bathes_34 : decode cX6_bathes 34 = .ok (.iconst 2, 1) := by decide +kernel
theorem dX6_bathes_35 : decode cX6_bathes 35 = .ok (.invokevirtual 118, 3) := by decide +kernel
theorem dX6_bathes_38 : decode cX6_bathes 38 = .ok (.sipush 9999, 3) := by decide +kernel
theorem dX6_bathes_41 : decode cX6_bathes 41 = .ok (.if_icmp .ge 7, 3) := by decide +kernel
theorem dX6_bathes_44 : decode cX6_bathes 44 = .ok (.iconst 1, 1) := by decide +kernel
theorem dX6_bathes_45 : decode cX6_bathes 45 = .ok (.goto 4, 3) := by decide +kernel
theorem dX6_bathes_48 : decode cX6_bathes 48 = .ok (.iconst 0, 1) := by decide +kernel
theorem dX6_bathes_49 : decode cX6_bathes 49 = .ok (.iadd, 1) := by decide +kernel
theorem dX6_bathes_50 : decode cX6_bathes 50 = .ok (.iastore, 1) := by decide +kernel
theorem dX6_bathes_51 : decode cX6_bathes 51 = .ok (.return_, 1) := by decide +kernel
theorem dX6_bathe_0 : decode cX6_bathe 0 = .ok (.aload_n 0, 1) := by decide +kernel
theorem dX6_bathe_1 : decode cX6_bathe 1 = .ok (.iload_n 1, 1) := by decide +kernel
theorem dX6_bathe_2 : decode cX6_bathe 2 = .ok (.invokevirtual 113, 3) := by decide +kernel
theorem dX6_bathe_5 : decode cX6_bathe 5 = .ok (.ifCond .ne 10, 3) := by decide +kernel
theorem dX6_bathe_8 : decode cX6_bathe 8 = .ok (.aload_n 0, 1) := by decide +kernel
theorem dX6_bathe_9 : decode cX6_bathe 9 = .ok (.ldc 41, 2) := by decide +kernel
theorem dX6_bathe_11 : decode cX6_bathe 11 = .ok (.invokevirtual 59, 3) := by decide +kernel
theorem dX6_bathe_14 : decode cX6_bathe 14 = .ok (.ireturn, 1) := by decide +kernel
theorem dX6_bathe_15 : decode cX6_bathe 15 = .ok (.aload_n 0, 1) := by decide +kernel
theorem dX6_bathe_16 : decode cX6_bathe 16 = .ok (.iload_n 1, 1) := by decide +kernel
theorem dX6_bathe_17 : decode cX6_bathe 17 = .ok (.invokevirtual 126, 3) := by decide +kernel
theorem dX6_bathe_20 : decode cX6_bathe 20 = .ok (.aload_n 0, 1) := by decide +kernel
theorem dX6_bathe_21 : decode cX6_bathe 21 = .ok (.iload_n 1, 1) := by decide +kernel
theorem dX6_bathe_22 : decode cX6_bathe 22 = .ok (.iconst 0, 1) := by decide +kernel
theorem dX6_bathe_23 : decode cX6_bathe 23 = .ok (.invokevirtual 118, 3) := by decide +kernel
theorem dX6_bathe_26 : decode cX6_bathe 26 = .ok (.ireturn, 1) := by decide +kernel
theorem dX6_day_0 : decode cX6_day 0 = .ok (.iconst 0, 1) := by decide +kernel
theorem dX6_day_1 : decode cX6_day 1 = .ok (.istore_n 1, 1) := by decide +kernel
theorem dX6_day_2 : decode cX6_day 2 = .ok (.iload_n 1, 1) := by decide +kernel
theorem dX6_day_3 : decode cX6_day 3 = .ok (.aload_n 0, 1) := by decide +kernel
theorem dX6_day_4 : decode cX6_day 4 = .ok (.getfield 7, 3) := by decide +kernel
theorem dX6_day_7 : decode cX6_day 7 = .ok (.iconst 1, 1) := by decide +kernel
theorem dX6_day_8 : decode cX6_day 8 = .ok (.iaload, 1) := by decide +kernel
theorem dX6_day_9 : decode cX6_day 9 = .ok (.if_icmp .ge 48, 3) := by decide +kernel
theorem dX6_day_12 : decode cX6_day 12 = .ok (.aload_n 0, 1) := by decide +kernel
theorem dX6_day_13 : decode cX6_day 13 = .ok (.iload_n 1, 1) := by decide +kernel
theorem dX6_day_14 : decode cX6_day 14 = .ok (.iconst 1, 1) := by decide +kernel
theorem dX6_day_15 : decode cX6_day 15 = .ok (.invokevirtual 118, 3) := by decide +kernel
theorem dX6_day_18 : decode cX6_day 18 = .ok (.istore_n 2, 1) := by decide +kernel
theorem dX6_day_19 : decode cX6_day 19 = .ok (.aload_n 0, 1) := by decide +kernel
theorem dX6_day_20 : decode cX6_day 20 = .ok (.iload_n 1, 1) := by decide +kernel
theorem dX6_day_21 : decode cX6_day 21 = .ok (.iconst 0, 1) := by decide +kernel
theorem dX6_day_22 : decode cX6_day 22 = .ok (.invokevirtual 118, 3) := by decide +kernel
theorem dX6_day_25 : decode cX6_day 25 = .ok (.ifCond .le 26, 3) := by decide +kernel
theorem dX6_day_28 : decode cX6_day 28 = .ok (.iload_n 2, 1) := by decide +kernel
theorem dX6_day_29 : decode cX6_day 29 = .ok (.ifCond .lt 17, 3) := by decide +kernel
theorem dX6_day_32 : decode cX6_day 32 = .ok (.aload_n 0, 1) := by decide +kernel
theorem dX6_day_33 : decode cX6_day 33 = .ok (.iload_n 2, 1) := by decide +kernel
theorem dX6_day_34 : decode cX6_day 34 = .ok (.aload_n 0, 1) := by decide +kernel
theorem dX6_day_35 : decode cX6_day 35 = .ok (.getfield 7, 3) := by decide +kernel
theorem dX6_day_38 : decode cX6_day 38 = .ok (.iconst 2, 1) := by decide +kernel
theorem dX6_day_39 : decode cX6_day 39 = .ok (.iaload, 1) := by decide +kernel
theorem dX6_day_40 : decode cX6_day 40 = .ok (.invokevirtual 102, 3) := by decide +kernel
theorem dX6_day_43 : decode cX6_day 43 = .ok (.ifCond .eq 8, 3) := by decide +kernel
theorem dX6_day_46 : decode cX6_day 46 = .ok (.aload_n 0, 1) := by decide +kernel
theorem dX6_day_47 : decode cX6_day 47 = .ok (.iload_n 1, 1) := by decide +kernel
theorem dX6_day_48 : decode cX6_day 48 = .ok (.invokevirtual 126, 3) := by decide +kernel
theorem dX6_day_51 : decode cX6_day 51 = .ok (.iinc 1 1, 3) := by decide +kernel
theorem dX6_day_54 : decode cX6_day 54 = .ok (.goto (-52), 3) := by decide +kernel
theorem dX6_day_57 : decode cX6_day 57 = .ok (.aload_n 0, 1) := by decide +kernel
theorem dX6_day_58 : decode cX6_day 58 = .ok (.getfield 7, 3) := by decide +kernel
theorem dX6_day_61 : decode cX6_day 61 = .ok (.iconst 2, 1) := by decide +kernel
theorem dX6_day_62 : decode cX6_day 62 = .ok (.iaload, 1) := by decide +kernel
theorem dX6_day_63 : decode cX6_day 63 = .ok (.bipush 7, 2) := by decide +kernel
theorem dX6_day_65 : decode cX6_day 65 = .ok (.irem, 1) := by decide +kernel
theorem dX6_day_66 : decode cX6_day 66 = .ok (.iconst 2, 1) := by decide +kernel
theorem dX6_day_67 : decode cX6_day 67 = .ok (.if_icmp .ne 54, 3) := by decide +kernel
theorem dX6_day_70 : decode cX6_day 70 = .ok (.aload_n 0, 1) := by decide +kernel
theorem dX6_day_71 : decode cX6_day 71 = .ok (.aload_n 0, 1) := by decide +kernel
theorem dX6_day_72 : decode cX6_day 72 = .ok (.getfield 7, 3) := by decide +kernel
theorem dX6_day_75 : decode cX6_day 75 = .ok (.iconst 4, 1) := by decide +kernel
theorem dX6_day_76 : decode cX6_day 76 = .ok (.iaload, 1) := by decide +kernel
theorem dX6_day_77 : decode cX6_day 77 = .ok (.aload_n 0, 1) := by decide +kernel
theorem dX6_day_78 : decode cX6_day 78 = .ok (.getfield 7, 3) := by decide +kernel
theorem dX6_day_81 : decode cX6_day 81 = .ok (.iconst 2, 1) := by decide +kernel
theorem dX6_day_82 : decode cX6_day 82 = .ok (.iaload, 1) := by decide +kernel
theorem dX6_day_83 : decode cX6_day 83 = .ok (.invokevirtual 102, 3) := by decide +kernel
theorem dX6_day_86 : decode cX6_day 86 = .ok (.ifCond .eq 7, 3) := by decide +kernel
theorem dX6_day_89 : decode cX6_day 89 = .ok (.iconst 5, 1) := by decide +kernel
theorem dX6_day_90 : decode cX6_day 90 = .ok (.goto 5, 3) := by decide +kernel
theorem dX6_day_93 : decode cX6_day 93 = .ok (.bipush 6, 2) := by decide +kernel
theorem dX6_day_95 : decode cX6_day 95 = .ok (.istore_n 1, 1) := by decide +kernel
theorem dX6_day_96 : decode cX6_day 96 = .ok (.aload_n 0, 1) := by decide +kernel
theorem dX6_day_97 : decode cX6_day 97 = .ok (.getfield 7, 3) := by decide +kernel
theorem dX6_day_100 : decode cX6_day 100 = .ok (.iload_n 1, 1) := by decide +kernel
theorem dX6_day_101 : decode cX6_day 101 = .ok (.dup2, 1) := by decide +kernel
theorem dX6_day_102 : decode cX6_day 102 = .ok (.iaload, 1) := by decide +kernel
theorem dX6_day_103 : decode cX6_day 103 = .ok (.aload_n 0, 1) := by decide +kernel
theorem dX6_day_104 : decode cX6_day 104 = .ok (.getfield 7, 3) := by decide +kernel
theorem dX6_day_107 : decode cX6_day 107 = .ok (.iload_n 1, 1) := by decide +kernel
theorem dX6_day_108 : decode cX6_day 108 = .ok (.iaload, 1) := by decide +kernel
theorem dX6_day_109 : decode cX6_day 109 = .ok (.bipush 99, 2) := by decide +kernel
theorem dX6_day_111 : decode cX6_day 111 = .ok (.if_icmp .ge 7, 3) := by decide +kernel
theorem dX6_day_114 : decode cX6_day 114 = .ok (.iconst 1, 1) := by decide +kernel
theorem dX6_day_115 : decode cX6_day 115 = .ok (.goto 4, 3) := by decide +kernel
theorem dX6_day_118 : decode cX6_day 118 = .ok (.iconst 0, 1) := by decide +kernel
theorem dX6_day_119 : decode cX6_day 119 = .ok (.iadd, 1) := by decide +kernel
theorem dX6_day_120 : decode cX6_day 120 = .ok (.iastore, 1) := by decide +kernel
theorem dX6_day_121 : decode cX6_day 121 = .ok (.aload_n 0, 1) := by decide +kernel
theorem dX6_day_122 : decode cX6_day 122 = .ok (.getfield 7, 3) := by decide +kernel
theorem dX6_day_125 : decode cX6_day 125 = .ok (.iconst 2, 1) := by decide +kernel
theorem dX6_day_126 : decode cX6_day 126 = .ok (.dup2, 1) := by decide +kernel
theorem dX6_day_127 : decode cX6_day 127 = .ok (.iaload, 1) := by decide +kernel
theorem dX6_day_128 : decode cX6_day 128 = .ok (.iconst 1, 1) := by decide +kernel
theorem dX6_day_129 : decode cX6_day 129 = .ok (.iadd, 1) := by decide +kernel
theorem dX6_day_130 : decode cX6_day 130 = .ok (.iastore, 1) := by decide +kernel
theorem dX6_day_131 : decode cX6_day 131 = .ok (.return_, 1) := by decide +kernel
theorem dX6_goesOn_0 : decode cX6_goesOn 0 = .ok (.iconst 0, 1) := by decide +kernel
theorem dX6_goesOn_1 : decode cX6_goesOn 1 = .ok (.istore_n 2, 1) := by decide +kernel
theorem dX6_goesOn_2 : decode cX6_goesOn 2 = .ok (.iload_n 2, 1) := by decide +kernel
theorem dX6_goesOn_3 : decode cX6_goesOn 3 = .ok (.iload_n 1, 1) := by decide +kernel
theorem dX6_goesOn_4 : decode cX6_goesOn 4 = .ok (.if_icmp .ge 13, 3) := by decide +kernel
theorem dX6_goesOn_7 : decode cX6_goesOn 7 = .ok (.aload_n 0, 1) := by decide +kernel
theorem dX6_goesOn_8 : decode cX6_goesOn 8 = .ok (.invokevirtual 130, 3) := by decide +kernel
theorem dX6_goesOn_11 : decode cX6_goesOn 11 = .ok (.iinc 2 1, 3) := by decide +kernel
theorem dX6_goesOn_14 : decode cX6_goesOn 14 = .ok (.goto (-12), 3) := by decide +kernel
theorem dX6_goesOn_17 : decode cX6_goesOn 17 = .ok (.return_, 1) := by decide +kernel
theorem dX6_wellOnes_0 : decode cX6_wellOnes 0 = .ok (.iconst 0, 1) := by decide +kernel
theorem dX6_wellOnes_1 : decode cX6_wellOnes 1 = .ok (.istore_n 1, 1) := by decide +kernel
theorem dX6_wellOnes_2 : decode cX6_wellOnes 2 = .ok (.iconst 0, 1) := by decide +kernel
theorem dX6_wellOnes_3 : decode cX6_wellOnes 3 = .ok (.istore_n 2, 1) := by decide +kernel
theorem dX6_wellOnes_4 : decode cX6_wellOnes 4 = .ok (.iload_n 2, 1) := by decide +kernel
theorem dX6_wellOnes_5 : decode cX6_wellOnes 5 = .ok (.aload_n 0, 1) := by decide +kernel
theorem dX6_wellOnes_6 : decode cX6_wellOnes 6 = .ok (.getfield 7, 3) := by decide +kernel
theorem dX6_wellOnes_9 : decode cX6_wellOnes 9 = .ok (.iconst 1, 1) := by decide +kernel
theorem dX6_wellOnes_10 : decode cX6_wellOnes 10 = .ok (.iaload, 1) := by decide +kernel
theorem dX6_wellOnes_11 : decode cX6_wellOnes 11 = .ok (.if_icmp .ge 28, 3) := by decide +kernel
theorem dX6_wellOnes_14 : decode cX6_wellOnes 14 = .ok (.iload_n 1, 1) := by decide +kernel
theorem dX6_wellOnes_15 : decode cX6_wellOnes 15 = .ok (.aload_n 0, 1) := by decide +kernel
theorem dX6_wellOnes_16 : decode cX6_wellOnes 16 = .ok (.iload_n 2, 1) := by decide +kernel
theorem dX6_wellOnes_17 : decode cX6_wellOnes 17 = .ok (.iconst 0, 1) := by decide +kernel
theorem dX6_wellOnes_18 : decode cX6_wellOnes 18 = .ok (.invokevirtual 118, 3) := by decide +kernel
theorem dX6_wellOnes_21 : decode cX6_wellOnes 21 = .ok (.ifCond .ne 9, 3) := by decide +kernel
theorem dX6_wellOnes_24 : decode cX6_wellOnes 24 = .ok (.iconst 1, 1) := by decide +kernel
theorem dX6_wellOnes_25 : decode cX6_wellOnes 25 = .ok (.iload_n 2, 1) := by decide +kernel
theorem dX6_wellOnes_26 : decode cX6_wellOnes 26 = .ok (.ishl, 1) := by decide +kernel
theorem dX6_wellOnes_27 : decode cX6_wellOnes 27 = .ok (.goto 4, 3) := by decide +kernel
theorem dX6_wellOnes_30 : decode cX6_wellOnes 30 = .ok (.iconst 0, 1) := by decide +kernel
theorem dX6_wellOnes_31 : decode cX6_wellOnes 31 = .ok (.ior, 1) := by decide +kernel
theorem dX6_wellOnes_32 : decode cX6_wellOnes 32 = .ok (.istore_n 1, 1) := by decide +kernel
theorem dX6_wellOnes_33 : decode cX6_wellOnes 33 = .ok (.iinc 2 1, 3) := by decide +kernel
theorem dX6_wellOnes_36 : decode cX6_wellOnes 36 = .ok (.goto (-32), 3) := by decide +kernel
theorem dX6_wellOnes_39 : decode cX6_wellOnes 39 = .ok (.iload_n 1, 1) := by decide +kernel
theorem dX6_wellOnes_40 : decode cX6_wellOnes 40 = .ok (.ireturn, 1) := by decide +kernel
theorem dX6_ones_0 : decode cX6_ones 0 = .ok (.iconst 0, 1) := by decide +kernel
theorem dX6_ones_1 : decode cX6_ones 1 = .ok (.istore_n 1, 1) := by decide +kernel
theorem dX6_ones_2 : decode cX6_ones 2 = .ok (.iload_n 0, 1) := by decide +kernel
theorem dX6_ones_3 : decode cX6_ones 3 = .ok (.istore_n 2, 1) := by decide +kernel
theorem dX6_ones_4 : decode cX6_ones 4 = .ok (.iload_n 2, 1) := by decide +kernel
theorem dX6_ones_5 : decode cX6_ones 5 = .ok (.ifCond .eq 15, 3) := by decide +kernel
theorem dX6_ones_8 : decode cX6_ones 8 = .ok (.iinc 1 1, 3) := by decide +kernel
theorem dX6_ones_11 : decode cX6_ones 11 = .ok (.iload_n 2, 1) := by decide +kernel
theorem dX6_ones_12 : decode cX6_ones 12 = .ok (.iload_n 2, 1) := by decide +kernel
theorem dX6_ones_13 : decode cX6_ones 13 = .ok (.iconst 1, 1) := by decide +kernel
theorem dX6_ones_14 : decode cX6_ones 14 = .ok (.isub, 1) := by decide +kernel
theorem dX6_ones_15 : decode cX6_ones 15 = .ok (.iand, 1) := by decide +kernel
theorem dX6_ones_16 : decode cX6_ones 16 = .ok (.istore_n 2, 1) := by decide +kernel
theorem dX6_ones_17 : decode cX6_ones 17 = .ok (.goto (-13), 3) := by decide +kernel
theorem dX6_ones_20 : decode cX6_ones 20 = .ok (.iload_n 1, 1) := by decide +kernel
theorem dX6_ones_21 : decode cX6_ones 21 = .ok (.ireturn, 1) := by decide +kernel
theorem dX6_days_0 : decode cX6_days 0 = .ok (.iload_n 1, 1) := by decide +kernel
theorem dX6_days_1 : decode cX6_days 1 = .ok (.i2l, 1) := by decide +kernel
theorem dX6_days_2 : decode cX6_days 2 = .ok (.lconst 1, 1) := by decide +kernel
theorem dX6_days_3 : decode cX6_days 3 = .ok (.ldc2_w 133, 3) := by decide +kernel
theorem dX6_days_6 : decode cX6_days 6 = .ok (.invokestatic 42, 3) := by decide +kernel
theorem dX6_days_9 : decode cX6_days 9 = .ok (.ifCond .ne 10, 3) := by decide +kernel
theorem dX6_days_12 : decode cX6_days 12 = .ok (.aload_n 0, 1) := by decide +kernel
theorem dX6_days_13 : decode cX6_days 13 = .ok (.ldc 41, 2) := by decide +kernel
theorem dX6_days_15 : decode cX6_days 15 = .ok (.invokevirtual 59, 3) := by decide +kernel
theorem dX6_days_18 : decode cX6_days 18 = .ok (.ireturn, 1) := by decide +kernel
theorem dX6_days_19 : decode cX6_days 19 = .ok (.aload_n 0, 1) := by decide +kernel
theorem dX6_days_20 : decode cX6_days 20 = .ok (.getfield 7, 3) := by decide +kernel
theorem dX6_days_23 : decode cX6_days 23 = .ok (.iconst 2, 1) := by decide +kernel
theorem dX6_days_24 : decode cX6_days 24 = .ok (.iaload, 1) := by decide +kernel
theorem dX6_days_25 : decode cX6_days 25 = .ok (.iload_n 1, 1) := by decide +kernel
theorem dX6_days_26 : decode cX6_days 26 = .ok (.iadd, 1) := by decide +kernel
theorem dX6_days_27 : decode cX6_days 27 = .ok (.ldc 135, 2) := by decide +kernel
theorem dX6_days_29 : decode cX6_days 29 = .ok (.if_icmp .le 10, 3) := by decide +kernel
theorem dX6_days_32 : decode cX6_days 32 = .ok (.aload_n 0, 1) := by decide +kernel
theorem dX6_days_33 : decode cX6_days 33 = .ok (.ldc 121, 2) := by decide +kernel
theorem dX6_days_35 : decode cX6_days 35 = .ok (.invokevirtual 59, 3) := by decide +kernel
theorem dX6_days_38 : decode cX6_days 38 = .ok (.ireturn, 1) := by decide +kernel
theorem dX6_days_39 : decode cX6_days 39 = .ok (.aload_n 0, 1) := by decide +kernel
theorem dX6_days_40 : decode cX6_days 40 = .ok (.iload_n 1, 1) := by decide +kernel
theorem dX6_days_41 : decode cX6_days 41 = .ok (.invokevirtual 136, 3) := by decide +kernel
theorem dX6_days_44 : decode cX6_days 44 = .ok (.aload_n 0, 1) := by decide +kernel
theorem dX6_days_45 : decode cX6_days 45 = .ok (.invokevirtual 139, 3) := by decide +kernel
theorem dX6_days_48 : decode cX6_days 48 = .ok (.invokestatic 143, 3) := by decide +kernel
theorem dX6_days_51 : decode cX6_days 51 = .ok (.ireturn, 1) := by decide +kernel
theorem dX6_together_0 : decode cX6_together 0 = .ok (.iconst 0, 1) := by decide +kernel
theorem dX6_together_1 : decode cX6_together 1 = .ok (.istore_n 2, 1) := by decide +kernel
theorem dX6_together_2 : decode cX6_together 2 = .ok (.iconst 0, 1) := by decide +kernel
theorem dX6_together_3 : decode cX6_together 3 = .ok (.istore_n 3, 1) := by decide +kernel
theorem dX6_together_4 : decode cX6_together 4 = .ok (.iload_n 3, 1) := by decide +kernel
theorem dX6_together_5 : decode cX6_together 5 = .ok (.aload_n 0, 1) := by decide +kernel
theorem dX6_together_6 : decode cX6_together 6 = .ok (.getfield 7, 3) := by decide +kernel
theorem dX6_together_9 : decode cX6_together 9 = .ok (.iconst 1, 1) := by decide +kernel
theorem dX6_together_10 : decode cX6_together 10 = .ok (.iaload, 1) := by decide +kernel
theorem dX6_together_11 : decode cX6_together 11 = .ok (.if_icmp .ge 18, 3) := by decide +kernel
theorem dX6_together_14 : decode cX6_together 14 = .ok (.iload_n 2, 1) := by decide +kernel
theorem dX6_together_15 : decode cX6_together 15 = .ok (.aload_n 0, 1) := by decide +kernel
theorem dX6_together_16 : decode cX6_together 16 = .ok (.iload_n 3, 1) := by decide +kernel
theorem dX6_together_17 : decode cX6_together 17 = .ok (.iload_n 1, 1) := by decide +kernel
theorem dX6_together_18 : decode cX6_together 18 = .ok (.invokevirtual 118, 3) := by decide +kernel
theorem dX6_together_21 : decode cX6_together 21 = .ok (.iadd, 1) := by decide +kernel
theorem dX6_together_22 : decode cX6_together 22 = .ok (.istore_n 2, 1) := by decide +kernel
theorem dX6_together_23 : decode cX6_together 23 = .ok (.iinc 3 1, 3) := by decide +kernel
theorem dX6_together_26 : decode cX6_together 26 = .ok (.goto (-22), 3) := by decide +kernel
theorem dX6_together_29 : decode cX6_together 29 = .ok (.iload_n 2, 1) := by decide +kernel
theorem dX6_together_30 : decode cX6_together 30 = .ok (.ireturn, 1) := by decide +kernel
theorem dX6_now_0 : decode cX6_now 0 = .ok (.iload_n 1, 1) := by decide +kernel
theorem dX6_now_1 : decode cX6_now 1 = .ok (.tableswitch 63 0 6 #[43, 43, 43, 43, 43, 52, 58], 43) := by decide +kernel
theorem dX6_now_44 : decode cX6_now 44 = .ok (.aload_n 0, 1) := by decide +kernel
theorem dX6_now_45 : decode cX6_now 45 = .ok (.getfield 7, 3) := by decide +kernel
theorem dX6_now_48 : decode cX6_now 48 = .ok (.iconst 2, 1) := by decide +kernel
theorem dX6_now_49 : decode cX6_now 49 = .ok (.iload_n 1, 1) := by decide +kernel
theorem dX6_now_50 : decode cX6_now 50 = .ok (.iadd, 1) := by decide +kernel
theorem dX6_now_51 : decode cX6_now 51 = .ok (.iaload, 1) := by decide +kernel
theorem dX6_now_52 : decode cX6_now 52 = .ok (.ireturn, 1) := by decide +kernel
theorem dX6_now_53 : decode cX6_now 53 = .ok (.aload_n 0, 1) := by decide +kernel
theorem dX6_now_54 : decode cX6_now 54 = .ok (.iconst 0, 1) := by decide +kernel
theorem dX6_now_55 : decode cX6_now 55 = .ok (.invokevirtual 146, 3) := by decide +kernel
theorem dX6_now_58 : decode cX6_now 58 = .ok (.ireturn, 1) := by decide +kernel
theorem dX6_now_59 : decode cX6_now 59 = .ok (.aload_n 0, 1) := by decide +kernel
theorem dX6_now_60 : decode cX6_now 60 = .ok (.invokevirtual 139, 3) := by decide +kernel
theorem dX6_now_63 : decode cX6_now 63 = .ok (.ireturn, 1) := by decide +kernel
theorem dX6_now_64 : decode cX6_now 64 = .ok (.aload_n 0, 1) := by decide +kernel
theorem dX6_now_65 : decode cX6_now 65 = .ok (.ldc 41, 2) := by decide +kernel
theorem dX6_now_67 : decode cX6_now 67 = .ok (.invokevirtual 59, 3) := by decide +kernel
theorem dX6_now_70 : decode cX6_now 70 = .ok (.ireturn, 1) := by decide +kernel
theorem dX6_on_0 : decode cX6_on 0 = .ok (.aload_n 0, 1) := by decide +kernel
theorem dX6_on_1 : decode cX6_on 1 = .ok (.iload_n 1, 1) := by decide +kernel
theorem dX6_on_2 : decode cX6_on 2 = .ok (.invokevirtual 113, 3) := by decide +kernel
theorem dX6_on_5 : decode cX6_on 5 = .ok (.ifCond .eq 25, 3) := by decide +kernel
theorem dX6_on_8 : decode cX6_on 8 = .ok (.iload_n 2, 1) := by decide +kernel
theorem dX6_on_9 : decode cX6_on 9 = .ok (.i2l, 1) := by decide +kernel
theorem dX6_on_10 : decode cX6_on 10 = .ok (.lconst 0, 1) := by decide +kernel
theorem dX6_on_11 : decode cX6_on 11 = .ok (.ldc2_w 133, 3) := by decide +kernel
theorem dX6_on_14 : decode cX6_on 14 = .ok (.invokestatic 42, 3) := by decide +kernel
theorem dX6_on_17 : decode cX6_on 17 = .ok (.ifCond .eq 13, 3) := by decide +kernel
theorem dX6_on_20 : decode cX6_on 20 = .ok (.iload_n 3, 1) := by decide +kernel
theorem dX6_on_21 : decode cX6_on 21 = .ok (.i2l, 1) := by decide +kernel
theorem dX6_on_22 : decode cX6_on 22 = .ok (.lconst 0, 1) := by decide +kernel
theorem dX6_on_23 : decode cX6_on 23 = .ok (.lconst 1, 1) := by decide +kernel
theorem dX6_on_24 : decode cX6_on 24 = .ok (.invokestatic 42, 3) := by decide +kernel
theorem dX6_on_27 : decode cX6_on 27 = .ok (.ifCond .ne 10, 3) := by decide +kernel
theorem dX6_on_30 : decode cX6_on 30 = .ok (.aload_n 0, 1) := by decide +kernel
theorem dX6_on_31 : decode cX6_on 31 = .ok (.ldc 41, 2) := by decide +kernel
theorem dX6_on_33 : decode cX6_on 33 = .ok (.invokevirtual 59, 3) := by decide +kernel
theorem dX6_on_36 : decode cX6_on 36 = .ok (.ireturn, 1) := by decide +kernel
theorem dX6_on_37 : decode cX6_on 37 = .ok (.aload_n 0, 1) := by decide +kernel
theorem dX6_on_38 : decode cX6_on 38 = .ok (.invokevirtual 149, 3) := by decide +kernel
theorem dX6_on_41 : decode cX6_on 41 = .ok (.aload_n 0, 1) := by decide +kernel
theorem dX6_on_42 : decode cX6_on 42 = .ok (.iload_n 2, 1) := by decide +kernel
theorem dX6_on_43 : decode cX6_on 43 = .ok (.invokevirtual 136, 3) := by decide +kernel
theorem dX6_on_46 : decode cX6_on 46 = .ok (.aload_n 0, 1) := by decide +kernel
theorem dX6_on_47 : decode cX6_on 47 = .ok (.aload_n 0, 1) := by decide +kernel
theorem dX6_on_48 : decode cX6_on 48 = .ok (.iload_n 1, 1) := by decide +kernel
theorem dX6_on_49 : decode cX6_on 49 = .ok (.iload_n 3, 1) := by decide +kernel
theorem dX6_on_50 : decode cX6_on 50 = .ok (.ifCond .ne 7, 3) := by decide +kernel
theorem dX6_on_53 : decode cX6_on 53 = .ok (.iconst 0, 1) := by decide +kernel
theorem dX6_on_54 : decode cX6_on 54 = .ok (.goto 4, 3) := by decide +kernel
theorem dX6_on_57 : decode cX6_on 57 = .ok (.iconst 2, 1) := by decide +kernel
theorem dX6_on_58 : decode cX6_on 58 = .ok (.invokevirtual 118, 3) := by decide +kernel
theorem dX6_on_61 : decode cX6_on 61 = .ok (.invokevirtual 152, 3) := by decide +kernel
theorem dX6_on_64 : decode cX6_on 64 = .ok (.ireturn, 1) := by decide +kernel
theorem dX6_wellIn_0 : decode cX6_wellIn 0 = .ok (.aload_n 0, 1) := by decide +kernel
theorem dX6_wellIn_1 : decode cX6_wellIn 1 = .ok (.invokevirtual 149, 3) := by decide +kernel
theorem dX6_wellIn_4 : decode cX6_wellIn 4 = .ok (.iconst 0, 1) := by decide +kernel
theorem dX6_wellIn_5 : decode cX6_wellIn 5 = .ok (.istore_n 2, 1) := by decide +kernel
theorem dX6_wellIn_6 : decode cX6_wellIn 6 = .ok (.iload_n 2, 1) := by decide +kernel
theorem dX6_wellIn_7 : decode cX6_wellIn 7 = .ok (.sipush 400, 3) := by decide +kernel
theorem dX6_wellIn_10 : decode cX6_wellIn 10 = .ok (.if_icmp .gt 22, 3) := by decide +kernel
theorem dX6_wellIn_13 : decode cX6_wellIn 13 = .ok (.aload_n 0, 1) := by decide +kernel
theorem dX6_wellIn_14 : decode cX6_wellIn 14 = .ok (.iload_n 1, 1) := by decide +kernel
theorem dX6_wellIn_15 : decode cX6_wellIn 15 = .ok (.iconst 0, 1) := by decide +kernel
theorem dX6_wellIn_16 : decode cX6_wellIn 16 = .ok (.invokevirtual 118, 3) := by decide +kernel
theorem dX6_wellIn_19 : decode cX6_wellIn 19 = .ok (.ifCond .le 13, 3) := by decide +kernel
theorem dX6_wellIn_22 : decode cX6_wellIn 22 = .ok (.aload_n 0, 1) := by decide +kernel
theorem dX6_wellIn_23 : decode cX6_wellIn 23 = .ok (.invokevirtual 130, 3) := by decide +kernel
theorem dX6_wellIn_26 : decode cX6_wellIn 26 = .ok (.iinc 2 1, 3) := by decide +kernel
theorem dX6_wellIn_29 : decode cX6_wellIn 29 = .ok (.goto (-23), 3) := by decide +kernel
theorem dX6_wellIn_32 : decode cX6_wellIn 32 = .ok (.aload_n 0, 1) := by decide +kernel
theorem dX6_wellIn_33 : decode cX6_wellIn 33 = .ok (.iload_n 2, 1) := by decide +kernel
theorem dX6_wellIn_34 : decode cX6_wellIn 34 = .ok (.invokevirtual 152, 3) := by decide +kernel
theorem dX6_wellIn_37 : decode cX6_wellIn 37 = .ok (.ireturn, 1) := by decide +kernel
theorem dX6_well_0 : decode cX6_well 0 = .ok (.aload_n 0, 1) := by decide +kernel
theorem dX6_well_1 : decode cX6_well 1 = .ok (.iload_n 1, 1) := by decide +kernel
theorem dX6_well_2 : decode cX6_well 2 = .ok (.invokevirtual 113, 3) := by decide +kernel
theorem dX6_well_5 : decode cX6_well 5 = .ok (.ifCond .ne 10, 3) := by decide +kernel
theorem dX6_well_8 : decode cX6_well 8 = .ok (.aload_n 0, 1) := by decide +kernel
theorem dX6_well_9 : decode cX6_well 9 = .ok (.ldc 41, 2) := by decide +kernel
theorem dX6_well_11 : decode cX6_well 11 = .ok (.invokevirtual 59, 3) := by decide +kernel
theorem dX6_well_14 : decode cX6_well 14 = .ok (.ireturn, 1) := by decide +kernel
theorem dX6_well_15 : decode cX6_well 15 = .ok (.aload_n 0, 1) := by decide +kernel
theorem dX6_well_16 : decode cX6_well 16 = .ok (.iload_n 1, 1) := by decide +kernel
theorem dX6_well_17 : decode cX6_well 17 = .ok (.invokevirtual 155, 3) := by decide +kernel
theorem dX6_well_20 : decode cX6_well 20 = .ok (.istore_n 2, 1) := by decide +kernel
theorem dX6_well_21 : decode cX6_well 21 = .ok (.iload_n 2, 1) := by decide +kernel
theorem dX6_well_22 : decode cX6_well 22 = .ok (.sipush 400, 3) := by decide +kernel
theorem dX6_well_25 : decode cX6_well 25 = .ok (.if_icmp .le 12, 3) := by decide +kernel
theorem dX6_well_28 : decode cX6_well 28 = .ok (.aload_n 0, 1) := by decide +kernel
theorem dX6_well_29 : decode cX6_well 29 = .ok (.ldc 158, 2) := by decide +kernel
theorem dX6_well_31 : decode cX6_well 31 = .ok (.invokevirtual 59, 3) := by decide +kernel
theorem dX6_well_34 : decode cX6_well 34 = .ok (.goto 4, 3) := by decide +kernel
theorem dX6_well_37 : decode cX6_well 37 = .ok (.iload_n 2, 1) := by decide +kernel
theorem dX6_well_38 : decode cX6_well 38 = .ok (.ireturn, 1) := by decide +kernel
theorem dX6_next_0 : decode cX6_next 0 = .ok (.aload_n 0, 1) := by decide +kernel
theorem dX6_next_1 : decode cX6_next 1 = .ok (.iload_n 1, 1) := by decide +kernel
theorem dX6_next_2 : decode cX6_next 2 = .ok (.invokevirtual 46, 3) := by decide +kernel
theorem dX6_next_5 : decode cX6_next 5 = .ok (.ifCond .ne 10, 3) := by decide +kernel
theorem dX6_next_8 : decode cX6_next 8 = .ok (.aload_n 0, 1) := by decide +kernel
theorem dX6_next_9 : decode cX6_next 9 = .ok (.ldc 41, 2) := by decide +kernel
theorem dX6_next_11 : decode cX6_next 11 = .ok (.invokevirtual 59, 3) := by decide +kernel
theorem dX6_next_14 : decode cX6_next 14 = .ok (.ireturn, 1) := by decide +kernel
theorem dX6_next_15 : decode cX6_next 15 = .ok (.aload_n 0, 1) := by decide +kernel
theorem dX6_next_16 : decode cX6_next 16 = .ok (.getfield 7, 3) := by decide +kernel
theorem dX6_next_19 : decode cX6_next 19 = .ok (.iconst 2, 1) := by decide +kernel
theorem dX6_next_20 : decode cX6_next 20 = .ok (.iaload, 1) := by decide +kernel
theorem dX6_next_21 : decode cX6_next 21 = .ok (.istore_n 2, 1) := by decide +kernel
theorem dX6_next_22 : decode cX6_next 22 = .ok (.iload_n 2, 1) := by decide +kernel
theorem dX6_next_23 : decode cX6_next 23 = .ok (.aload_n 0, 1) := by decide +kernel
theorem dX6_next_24 : decode cX6_next 24 = .ok (.getfield 7, 3) := by decide +kernel
theorem dX6_next_27 : decode cX6_next 27 = .ok (.iconst 2, 1) := by decide +kernel
theorem dX6_next_28 : decode cX6_next 28 = .ok (.iaload, 1) := by decide +kernel
theorem dX6_next_29 : decode cX6_next 29 = .ok (.sipush 400, 3) := by decide +kernel
theorem dX6_next_32 : decode cX6_next 32 = .ok (.iadd, 1) := by decide +kernel
theorem dX6_next_33 : decode cX6_next 33 = .ok (.if_icmp .gt 20, 3) := by decide +kernel
theorem dX6_next_36 : decode cX6_next 36 = .ok (.aload_n 0, 1) := by decide +kernel
theorem dX6_next_37 : decode cX6_next 37 = .ok (.iload_n 1, 1) := by decide +kernel
theorem dX6_next_38 : decode cX6_next 38 = .ok (.iload_n 2, 1) := by decide +kernel
theorem dX6_next_39 : decode cX6_next 39 = .ok (.invokevirtual 102, 3) := by decide +kernel
theorem dX6_next_42 : decode cX6_next 42 = .ok (.ifCond .eq 5, 3) := by decide +kernel
theorem dX6_next_45 : decode cX6_next 45 = .ok (.iload_n 2, 1) := by decide +kernel
theorem dX6_next_46 : decode cX6_next 46 = .ok (.ireturn, 1) := by decide +kernel
theorem dX6_next_47 : decode cX6_next 47 = .ok (.iinc 2 1, 3) := by decide +kernel
theorem dX6_next_50 : decode cX6_next 50 = .ok (.goto (-28), 3) := by decide +kernel
theorem dX6_next_53 : decode cX6_next 53 = .ok (.aload_n 0, 1) := by decide +kernel
theorem dX6_next_54 : decode cX6_next 54 = .ok (.ldc 158, 2) := by decide +kernel
theorem dX6_next_56 : decode cX6_next 56 = .ok (.invokevirtual 59, 3) := by decide +kernel
theorem dX6_next_59 : decode cX6_next 59 = .ok (.ireturn, 1) := by decide +kernel
theorem dX6_isAgreed_0 : decode cX6_isAgreed 0 = .ok (.aload_n 0, 1) := by decide +kernel
theorem dX6_isAgreed_1 : decode cX6_isAgreed 1 = .ok (.iload_n 1, 1) := by decide +kernel
theorem dX6_isAgreed_2 : decode cX6_isAgreed 2 = .ok (.iload_n 3, 1) := by decide +kernel
theorem dX6_isAgreed_3 : decode cX6_isAgreed 3 = .ok (.invokevirtual 102, 3) := by decide +kernel
theorem dX6_isAgreed_6 : decode cX6_isAgreed 6 = .ok (.aload_n 0, 1) := by decide +kernel
theorem dX6_isAgreed_7 : decode cX6_isAgreed 7 = .ok (.iload_n 2, 1) := by decide +kernel
theorem dX6_isAgreed_8 : decode cX6_isAgreed 8 = .ok (.iload_n 3, 1) := by decide +kernel
theorem dX6_isAgreed_9 : decode cX6_isAgreed 9 = .ok (.invokevirtual 102, 3) := by decide +kernel
theorem dX6_isAgreed_12 : decode cX6_isAgreed 12 = .ok (.if_icmp .ne 7, 3) := by decide +kernel
theorem dX6_isAgreed_15 : decode cX6_isAgreed 15 = .ok (.iconst 1, 1) := by decide +kernel
theorem dX6_isAgreed_16 : decode cX6_isAgreed 16 = .ok (.goto 4, 3) := by decide +kernel
theorem dX6_isAgreed_19 : decode cX6_isAgreed 19 = .ok (.iconst 0, 1) := by decide +kernel
theorem dX6_isAgreed_20 : decode cX6_isAgreed 20 = .ok (.ireturn, 1) := by decide +kernel
theorem dX6_agreed_0 : decode cX6_agreed 0 = .ok (.iconst 0, 1) := by decide +kernel
theorem dX6_agreed_1 : decode cX6_agreed 1 = .ok (.istore 4, 2) := by decide +kernel
theorem dX6_agreed_3 : decode cX6_agreed 3 = .ok (.aload_n 0, 1) := by decide +kernel
theorem dX6_agreed_4 : decode cX6_agreed 4 = .ok (.getfield 7, 3) := by decide +kernel
theorem dX6_agreed_7 : decode cX6_agreed 7 = .ok (.iconst 2, 1) := by decide +kernel
theorem dX6_agreed_8 : decode cX6_agreed 8 = .ok (.iaload, 1) := by decide +kernel
theorem dX6_agreed_9 : decode cX6_agreed 9 = .ok (.istore 5, 2) := by decide +kernel
theorem dX6_agreed_11 : decode cX6_agreed 11 = .ok (.iload 5, 2) := by decide +kernel
theorem dX6_agreed_13 : decode cX6_agreed 13 = .ok (.aload_n 0, 1) := by decide +kernel
theorem dX6_agreed_14 : decode cX6_agreed 14 = .ok (.getfield 7, 3) := by decide +kernel
theorem dX6_agreed_17 : decode cX6_agreed 17 = .ok (.iconst 2, 1) := by decide +kernel
theorem dX6_agreed_18 : decode cX6_agreed 18 = .ok (.iaload, 1) := by decide +kernel
theorem dX6_agreed_19 : decode cX6_agreed 19 = .ok (.iload_n 3, 1) := by decide +kernel
theorem dX6_agreed_20 : decode cX6_agreed 20 = .ok (.iadd, 1) := by decide +kernel
theorem dX6_agreed_21 : decode cX6_agreed 21 = .ok (.if_icmp .ge 30, 3) := by decide +kernel
theorem dX6_agreed_24 : decode cX6_agreed 24 = .ok (.iload 4, 2) := by decide +kernel
theorem dX6_agreed_26 : decode cX6_agreed 26 = .ok (.aload_n 0, 1) := by decide +kernel
theorem dX6_agreed_27 : decode cX6_agreed 27 = .ok (.iload_n 1, 1) := by decide +kernel
theorem dX6_agreed_28 : decode cX6_agreed 28 = .ok (.iload_n 2, 1) := by decide +kernel
theorem dX6_agreed_29 : decode cX6_agreed 29 = .ok (.iload 5, 2) := by decide +kernel
theorem dX6_agreed_31 : decode cX6_agreed 31 = .ok (.invokevirtual 159, 3) := by decide +kernel
theorem dX6_agreed_34 : decode cX6_agreed 34 = .ok (.ifCond .eq 7, 3) := by decide +kernel
theorem dX6_agreed_37 : decode cX6_agreed 37 = .ok (.iconst 1, 1) := by decide +kernel
theorem dX6_agreed_38 : decode cX6_agreed 38 = .ok (.goto 4, 3) := by decide +kernel
theorem dX6_agreed_41 : decode cX6_agreed 41 = .ok (.iconst 0, 1) := by decide +kernel
theorem dX6_agreed_42 : decode cX6_agreed 42 = .ok (.iadd, 1) := by decide +kernel
theorem dX6_agreed_43 : decode cX6_agreed 43 = .ok (.istore 4, 2) := by decide +kernel
theorem dX6_agreed_45 : decode cX6_agreed 45 = .ok (.iinc 5 1, 3) := by decide +kernel
theorem dX6_agreed_48 : decode cX6_agreed 48 = .ok (.goto (-37), 3) := by decide +kernel
theorem dX6_agreed_51 : decode cX6_agreed 51 = .ok (.iload 4, 2) := by decide +kernel
theorem dX6_agreed_53 : decode cX6_agreed 53 = .ok (.ireturn, 1) := by decide +kernel
theorem dX6_agree_0 : decode cX6_agree 0 = .ok (.aload_n 0, 1) := by decide +kernel
theorem dX6_agree_1 : decode cX6_agree 1 = .ok (.iload_n 1, 1) := by decide +kernel
theorem dX6_agree_2 : decode cX6_agree 2 = .ok (.iload_n 2, 1) := by decide +kernel
theorem dX6_agree_3 : decode cX6_agree 3 = .ok (.invokevirtual 163, 3) := by decide +kernel
theorem dX6_agree_6 : decode cX6_agree 6 = .ok (.ifCond .eq 25, 3) := by decide +kernel
theorem dX6_agree_9 : decode cX6_agree 9 = .ok (.iload_n 3, 1) := by decide +kernel
theorem dX6_agree_10 : decode cX6_agree 10 = .ok (.i2l, 1) := by decide +kernel
theorem dX6_agree_11 : decode cX6_agree 11 = .ok (.lconst 1, 1) := by decide +kernel
theorem dX6_agree_12 : decode cX6_agree 12 = .ok (.ldc2_w 133, 3) := by decide +kernel
theorem dX6_agree_15 : decode cX6_agree 15 = .ok (.invokestatic 42, 3) := by decide +kernel
theorem dX6_agree_18 : decode cX6_agree 18 = .ok (.ifCond .eq 13, 3) := by decide +kernel
theorem dX6_agree_21 : decode cX6_agree 21 = .ok (.aload_n 0, 1) := by decide +kernel
theorem dX6_agree_22 : decode cX6_agree 22 = .ok (.iload_n 1, 1) := by decide +kernel
theorem dX6_agree_23 : decode cX6_agree 23 = .ok (.iload_n 2, 1) := by decide +kernel
theorem dX6_agree_24 : decode cX6_agree 24 = .ok (.iload_n 3, 1) := by decide +kernel
theorem dX6_agree_25 : decode cX6_agree 25 = .ok (.invokevirtual 166, 3) := by decide +kernel
theorem dX6_agree_28 : decode cX6_agree 28 = .ok (.goto 9, 3) := by decide +kernel
theorem dX6_agree_31 : decode cX6_agree 31 = .ok (.aload_n 0, 1) := by decide +kernel
theorem dX6_agree_32 : decode cX6_agree 32 = .ok (.ldc 41, 2) := by decide +kernel
theorem dX6_agree_34 : decode cX6_agree 34 = .ok (.invokevirtual 59, 3) := by decide +kernel
theorem dX6_agree_37 : decode cX6_agree 37 = .ok (.ireturn, 1) := by decide +kernel
theorem dX6_row_0 : decode cX6_row 0 = .ok (.aload_n 0, 1) := by decide +kernel
theorem dX6_row_1 : decode cX6_row 1 = .ok (.iload_n 1, 1) := by decide +kernel
theorem dX6_row_2 : decode cX6_row 2 = .ok (.iload_n 2, 1) := by decide +kernel
theorem dX6_row_3 : decode cX6_row 3 = .ok (.invokevirtual 163, 3) := by decide +kernel
theorem dX6_row_6 : decode cX6_row 6 = .ok (.ifCond .eq 15, 3) := by decide +kernel
theorem dX6_row_9 : decode cX6_row 9 = .ok (.iload_n 3, 1) := by decide +kernel
theorem dX6_row_10 : decode cX6_row 10 = .ok (.i2l, 1) := by decide +kernel
theorem dX6_row_11 : decode cX6_row 11 = .ok (.lconst 1, 1) := by decide +kernel
theorem dX6_row_12 : decode cX6_row 12 = .ok (.ldc2_w 133, 3) := by decide +kernel
theorem dX6_row_15 : decode cX6_row 15 = .ok (.invokestatic 42, 3) := by decide +kernel
theorem dX6_row_18 : decode cX6_row 18 = .ok (.ifCond .ne 10, 3) := by decide +kernel
theorem dX6_row_21 : decode cX6_row 21 = .ok (.aload_n 0, 1) := by decide +kernel
theorem dX6_row_22 : decode cX6_row 22 = .ok (.ldc 41, 2) := by decide +kernel
theorem dX6_row_24 : decode cX6_row 24 = .ok (.invokevirtual 59, 3) := by decide +kernel
theorem dX6_row_27 : decode cX6_row 27 = .ok (.ireturn, 1) := by decide +kernel
theorem dX6_row_28 : decode cX6_row 28 = .ok (.iconst 0, 1) := by decide +kernel
theorem dX6_row_29 : decode cX6_row 29 = .ok (.istore 4, 2) := by decide +kernel
theorem dX6_row_31 : decode cX6_row 31 = .ok (.iconst 0, 1) := by decide +kernel
theorem dX6_row_32 : decode cX6_row 32 = .ok (.istore 5, 2) := by decide +kernel
theorem dX6_row_34 : decode cX6_row 34 = .ok (.aload_n 0, 1) := by decide +kernel
theorem dX6_row_35 : decode cX6_row 35 = .ok (.getfield 7, 3) := by decide +kernel
theorem dX6_row_38 : decode cX6_row 38 = .ok (.iconst 2, 1) := by decide +kernel
theorem dX6_row_39 : decode cX6_row 39 = .ok (.iaload, 1) := by decide +kernel
theorem dX6_row_40 : decode cX6_row 40 = .ok (.istore 6, 2) := by decide +kernel
theorem dX6_row_42 : decode cX6_row 42 = .ok (.iload 6, 2) := by decide +kernel
theorem dX6_row_44 : decode cX6_row 44 = .ok (.aload_n 0, 1) := by decide +kernel
theorem dX6_row_45 : decode cX6_row 45 = .ok (.getfield 7, 3) := by decide +kernel
theorem dX6_row_48 : decode cX6_row 48 = .ok (.iconst 2, 1) := by decide +kernel
theorem dX6_row_49 : decode cX6_row 49 = .ok (.iaload, 1) := by decide +kernel
theorem dX6_row_50 : decode cX6_row 50 = .ok (.iload_n 3, 1) := by decide +kernel
theorem dX6_row_51 : decode cX6_row 51 = .ok (.iadd, 1) := by decide +kernel
theorem dX6_row_52 : decode cX6_row 52 = .ok (.if_icmp .ge 46, 3) := by decide +kernel
theorem dX6_row_55 : decode cX6_row 55 = .ok (.aload_n 0, 1) := by decide +kernel
theorem dX6_row_56 : decode cX6_row 56 = .ok (.iload_n 1, 1) := by decide +kernel
theorem dX6_row_57 : decode cX6_row 57 = .ok (.iload_n 2, 1) := by decide +kernel
theorem dX6_row_58 : decode cX6_row 58 = .ok (.iload 6, 2) := by decide +kernel
theorem dX6_row_60 : decode cX6_row 60 = .ok (.invokevirtual 159, 3) := by decide +kernel
theorem dX6_row_63 : decode cX6_row 63 = .ok (.ifCond .eq 10, 3) := by decide +kernel
theorem dX6_row_66 : decode cX6_row 66 = .ok (.iload 5, 2) := by decide +kernel
theorem dX6_row_68 : decode cX6_row 68 = .ok (.iconst 1, 1) := by decide +kernel
theorem dX6_row_69 : decode cX6_row 69 = .ok (.iadd, 1) := by decide +kernel
theorem dX6_row_70 : decode cX6_row 70 = .ok (.goto 4, 3) := by decide +kernel
theorem dX6_row_73 : decode cX6_row 73 = .ok (.iconst 0, 1) := by decide +kernel
theorem dX6_row_74 : decode cX6_row 74 = .ok (.istore 5, 2) := by decide +kernel
theorem dX6_row_76 : decode cX6_row 76 = .ok (.iload 5, 2) := by decide +kernel
theorem dX6_row_78 : decode cX6_row 78 = .ok (.iload 4, 2) := by decide +kernel
theorem dX6_row_80 : decode cX6_row 80 = .ok (.if_icmp .le 8, 3) := by decide +kernel
theorem dX6_row_83 : decode cX6_row 83 = .ok (.iload 5, 2) := by decide +kernel
theorem dX6_row_85 : decode cX6_row 85 = .ok (.goto 5, 3) := by decide +kernel
theorem dX6_row_88 : decode cX6_row 88 = .ok (.iload 4, 2) := by decide +kernel
theorem dX6_row_90 : decode cX6_row 90 = .ok (.istore 4, 2) := by decide +kernel
theorem dX6_row_92 : decode cX6_row 92 = .ok (.iinc 6 1, 3) := by decide +kernel
theorem dX6_row_95 : decode cX6_row 95 = .ok (.goto (-53), 3) := by decide +kernel
theorem dX6_row_98 : decode cX6_row 98 = .ok (.iload 4, 2) := by decide +kernel
theorem dX6_row_100 : decode cX6_row 100 = .ok (.ireturn, 1) := by decide +kernel
theorem dX6_holyBy_0 : decode cX6_holyBy 0 = .ok (.iconst 0, 1) := by decide +kernel
theorem dX6_holyBy_1 : decode cX6_holyBy 1 = .ok (.istore_n 2, 1) := by decide +kernel
theorem dX6_holyBy_2 : decode cX6_holyBy 2 = .ok (.iconst 0, 1) := by decide +kernel
theorem dX6_holyBy_3 : decode cX6_holyBy 3 = .ok (.istore_n 3, 1) := by decide +kernel
theorem dX6_holyBy_4 : decode cX6_holyBy 4 = .ok (.iload_n 3, 1) := by decide +kernel
theorem dX6_holyBy_5 : decode cX6_holyBy 5 = .ok (.aload_n 0, 1) := by decide +kernel
theorem dX6_holyBy_6 : decode cX6_holyBy 6 = .ok (.getfield 7, 3) := by decide +kernel
theorem dX6_holyBy_9 : decode cX6_holyBy 9 = .ok (.iconst 0, 1) := by decide +kernel
theorem dX6_holyBy_10 : decode cX6_holyBy 10 = .ok (.iaload, 1) := by decide +kernel
theorem dX6_holyBy_11 : decode cX6_holyBy 11 = .ok (.if_icmp .ge 28, 3) := by decide +kernel
theorem dX6_holyBy_14 : decode cX6_holyBy 14 = .ok (.iload_n 2, 1) := by decide +kernel
theorem dX6_holyBy_15 : decode cX6_holyBy 15 = .ok (.aload_n 0, 1) := by decide +kernel
theorem dX6_holyBy_16 : decode cX6_holyBy 16 = .ok (.iload_n 3, 1) := by decide +kernel
theorem dX6_holyBy_17 : decode cX6_holyBy 17 = .ok (.iload_n 1, 1) := by decide +kernel
theorem dX6_holyBy_18 : decode cX6_holyBy 18 = .ok (.invokevirtual 102, 3) := by decide +kernel
theorem dX6_holyBy_21 : decode cX6_holyBy 21 = .ok (.ifCond .eq 9, 3) := by decide +kernel
theorem dX6_holyBy_24 : decode cX6_holyBy 24 = .ok (.iconst 1, 1) := by decide +kernel
theorem dX6_holyBy_25 : decode cX6_holyBy 25 = .ok (.iload_n 3, 1) := by decide +kernel
theorem dX6_holyBy_26 : decode cX6_holyBy 26 = .ok (.ishl, 1) := by decide +kernel
theorem dX6_holyBy_27 : decode cX6_holyBy 27 = .ok (.goto 4, 3) := by decide +kernel
theorem dX6_holyBy_30 : decode cX6_holyBy 30 = .ok (.iconst 0, 1) := by decide +kernel
theorem dX6_holyBy_31 : decode cX6_holyBy 31 = .ok (.ior, 1) := by decide +kernel
theorem dX6_holyBy_32 : decode cX6_holyBy 32 = .ok (.istore_n 2, 1) := by decide +kernel
theorem dX6_holyBy_33 : decode cX6_holyBy 33 = .ok (.iinc 3 1, 3) := by decide +kernel
theorem dX6_holyBy_36 : decode cX6_holyBy 36 = .ok (.goto (-32), 3) := by decide +kernel
theorem dX6_holyBy_39 : decode cX6_holyBy 39 = .ok (.iload_n 2, 1) := by decide +kernel
theorem dX6_holyBy_40 : decode cX6_holyBy 40 = .ok (.ireturn, 1) := by decide +kernel
theorem dX6_meet_0 : decode cX6_meet 0 = .ok (.iload_n 1, 1) := by decide +kernel
theorem dX6_meet_1 : decode cX6_meet 1 = .ok (.i2l, 1) := by decide +kernel
theorem dX6_meet_2 : decode cX6_meet 2 = .ok (.lconst 1, 1) := by decide +kernel
theorem dX6_meet_3 : decode cX6_meet 3 = .ok (.iconst 1, 1) := by decide +kernel
theorem dX6_meet_4 : decode cX6_meet 4 = .ok (.aload_n 0, 1) := by decide +kernel
theorem dX6_meet_5 : decode cX6_meet 5 = .ok (.getfield 7, 3) := by decide +kernel
theorem dX6_meet_8 : decode cX6_meet 8 = .ok (.iconst 0, 1) := by decide +kernel
theorem dX6_meet_9 : decode cX6_meet 9 = .ok (.iaload, 1) := by decide +kernel
theorem dX6_meet_10 : decode cX6_meet 10 = .ok (.ishl, 1) := by decide +kernel
theorem dX6_meet_11 : decode cX6_meet 11 = .ok (.iconst 1, 1) := by decide +kernel
theorem dX6_meet_12 : decode cX6_meet 12 = .ok (.isub, 1) := by decide +kernel
theorem dX6_meet_13 : decode cX6_meet 13 = .ok (.i2l, 1) := by decide +kernel
theorem dX6_meet_14 : decode cX6_meet 14 = .ok (.invokestatic 42, 3) := by decide +kernel
theorem dX6_meet_17 : decode cX6_meet 17 = .ok (.ifCond .ne 10, 3) := by decide +kernel
theorem dX6_meet_20 : decode cX6_meet 20 = .ok (.aload_n 0, 1) := by decide +kernel
theorem dX6_meet_21 : decode cX6_meet 21 = .ok (.ldc 41, 2) := by decide +kernel
theorem dX6_meet_23 : decode cX6_meet 23 = .ok (.invokevirtual 59, 3) := by decide +kernel
theorem dX6_meet_26 : decode cX6_meet 26 = .ok (.ireturn, 1) := by decide +kernel
theorem dX6_meet_27 : decode cX6_meet 27 = .ok (.aload_n 0, 1) := by decide +kernel
theorem dX6_meet_28 : decode cX6_meet 28 = .ok (.getfield 7, 3) := by decide +kernel
theorem dX6_meet_31 : decode cX6_meet 31 = .ok (.iconst 2, 1) := by decide +kernel
theorem dX6_meet_32 : decode cX6_meet 32 = .ok (.iaload, 1) := by decide +kernel
theorem dX6_meet_33 : decode cX6_meet 33 = .ok (.istore_n 2, 1) := by decide +kernel
theorem dX6_meet_34 : decode cX6_meet 34 = .ok (.iload_n 2, 1) := by decide +kernel
theorem dX6_meet_35 : decode cX6_meet 35 = .ok (.aload_n 0, 1) := by decide +kernel
theorem dX6_meet_36 : decode cX6_meet 36 = .ok (.getfield 7, 3) := by decide +kernel
theorem dX6_meet_39 : decode cX6_meet 39 = .ok (.iconst 2, 1) := by decide +kernel
theorem dX6_meet_40 : decode cX6_meet 40 = .ok (.iaload, 1) := by decide +kernel
theorem dX6_meet_41 : decode cX6_meet 41 = .ok (.sipush 2000, 3) := by decide +kernel
theorem dX6_meet_44 : decode cX6_meet 44 = .ok (.iadd, 1) := by decide +kernel
theorem dX6_meet_45 : decode cX6_meet 45 = .ok (.if_icmp .gt 20, 3) := by decide +kernel
theorem dX6_meet_48 : decode cX6_meet 48 = .ok (.aload_n 0, 1) := by decide +kernel
theorem dX6_meet_49 : decode cX6_meet 49 = .ok (.iload_n 2, 1) := by decide +kernel
theorem dX6_meet_50 : decode cX6_meet 50 = .ok (.invokevirtual 170, 3) := by decide +kernel
theorem dX6_meet_53 : decode cX6_meet 53 = .ok (.iload_n 1, 1) := by decide +kernel
theorem dX6_meet_54 : decode cX6_meet 54 = .ok (.if_icmp .ne 5, 3) := by decide +kernel
theorem dX6_meet_57 : decode cX6_meet 57 = .ok (.iload_n 2, 1) := by decide +kernel
theorem dX6_meet_58 : decode cX6_meet 58 = .ok (.ireturn, 1) := by decide +kernel
theorem dX6_meet_59 : decode cX6_meet 59 = .ok (.iinc 2 1, 3) := by decide +kernel
theorem dX6_meet_62 : decode cX6_meet 62 = .ok (.goto (-28), 3) := by decide +kernel
theorem dX6_meet_65 : decode cX6_meet 65 = .ok (.aload_n 0, 1) := by decide +kernel
theorem dX6_meet_66 : decode cX6_meet 66 = .ok (.ldc 158, 2) := by decide +kernel
theorem dX6_meet_68 : decode cX6_meet 68 = .ok (.invokevirtual 59, 3) := by decide +kernel
theorem dX6_meet_71 : decode cX6_meet 71 = .ok (.ireturn, 1) := by decide +kernel
theorem dX6_isDate_0 : decode cX6_isDate 0 = .ok (.iload_n 0, 1) := by decide +kernel
theorem dX6_isDate_1 : decode cX6_isDate 1 = .ok (.i2l, 1) := by decide +kernel
theorem dX6_isDate_2 : decode cX6_isDate 2 = .ok (.lconst 1, 1) := by decide +kernel
theorem dX6_isDate_3 : decode cX6_isDate 3 = .ok (.ldc2_w 72, 3) := by decide +kernel
theorem dX6_isDate_6 : decode cX6_isDate 6 = .ok (.invokestatic 42, 3) := by decide +kernel
theorem dX6_isDate_9 : decode cX6_isDate 9 = .ok (.ireturn, 1) := by decide +kernel
theorem dX6_both_0 : decode cX6_both 0 = .ok (.aload_n 0, 1) := by decide +kernel
theorem dX6_both_1 : decode cX6_both 1 = .ok (.iload_n 1, 1) := by decide +kernel
theorem dX6_both_2 : decode cX6_both 2 = .ok (.iload_n 3, 1) := by decide +kernel
theorem dX6_both_3 : decode cX6_both 3 = .ok (.invokevirtual 163, 3) := by decide +kernel
theorem dX6_both_6 : decode cX6_both 6 = .ok (.ifCond .eq 18, 3) := by decide +kernel
theorem dX6_both_9 : decode cX6_both 9 = .ok (.iload_n 2, 1) := by decide +kernel
theorem dX6_both_10 : decode cX6_both 10 = .ok (.invokestatic 173, 3) := by decide +kernel
theorem dX6_both_13 : decode cX6_both 13 = .ok (.ifCond .eq 11, 3) := by decide +kernel
theorem dX6_both_16 : decode cX6_both 16 = .ok (.iload 4, 2) := by decide +kernel
theorem dX6_both_18 : decode cX6_both 18 = .ok (.invokestatic 173, 3) := by decide +kernel
theorem dX6_both_21 : decode cX6_both 21 = .ok (.ifCond .ne 10, 3) := by decide +kernel
theorem dX6_both_24 : decode cX6_both 24 = .ok (.aload_n 0, 1) := by decide +kernel
theorem dX6_both_25 : decode cX6_both 25 = .ok (.ldc 41, 2) := by decide +kernel
theorem dX6_both_27 : decode cX6_both 27 = .ok (.invokevirtual 59, 3) := by decide +kernel
theorem dX6_both_30 : decode cX6_both 30 = .ok (.ireturn, 1) := by decide +kernel
theorem dX6_both_31 : decode cX6_both 31 = .ok (.aload_n 0, 1) := by decide +kernel
theorem dX6_both_32 : decode cX6_both 32 = .ok (.getfield 7, 3) := by decide +kernel
theorem dX6_both_35 : decode cX6_both 35 = .ok (.iconst 2, 1) := by decide +kernel
theorem dX6_both_36 : decode cX6_both 36 = .ok (.iaload, 1) := by decide +kernel
theorem dX6_both_37 : decode cX6_both 37 = .ok (.istore 5, 2) := by decide +kernel
theorem dX6_both_39 : decode cX6_both 39 = .ok (.iload 5, 2) := by decide +kernel
theorem dX6_both_41 : decode cX6_both 41 = .ok (.aload_n 0, 1) := by decide +kernel
theorem dX6_both_42 : decode cX6_both 42 = .ok (.getfield 7, 3) := by decide +kernel
theorem dX6_both_45 : decode cX6_both 45 = .ok (.iconst 2, 1) := by decide +kernel
theorem dX6_both_46 : decode cX6_both 46 = .ok (.iaload, 1) := by decide +kernel
theorem dX6_both_47 : decode cX6_both 47 = .ok (.sipush 2000, 3) := by decide +kernel
theorem dX6_both_50 : decode cX6_both 50 = .ok (.iadd, 1) := by decide +kernel
theorem dX6_both_51 : decode cX6_both 51 = .ok (.if_icmp .gt 35, 3) := by decide +kernel
theorem dX6_both_54 : decode cX6_both 54 = .ok (.aload_n 0, 1) := by decide +kernel
theorem dX6_both_55 : decode cX6_both 55 = .ok (.iload_n 1, 1) := by decide +kernel
theorem dX6_both_56 : decode cX6_both 56 = .ok (.iload 5, 2) := by decide +kernel
theorem dX6_both_58 : decode cX6_both 58 = .ok (.invokevirtual 92, 3) := by decide +kernel
theorem dX6_both_61 : decode cX6_both 61 = .ok (.iload_n 2, 1) := by decide +kernel
theorem dX6_both_62 : decode cX6_both 62 = .ok (.if_icmp .ne 18, 3) := by decide +kernel
theorem dX6_both_65 : decode cX6_both 65 = .ok (.aload_n 0, 1) := by decide +kernel
theorem dX6_both_66 : decode cX6_both 66 = .ok (.iload_n 3, 1) := by decide +kernel
theorem dX6_both_67 : decode cX6_both 67 = .ok (.iload 5, 2) := by decide +kernel
theorem dX6_both_69 : decode cX6_both 69 = .ok (.invokevirtual 92, 3) := by decide +kernel
theorem dX6_both_72 : decode cX6_both 72 = .ok (.iload 4, 2) := by decide +kernel
theorem dX6_both_74 : decode cX6_both 74 = .ok (.if_icmp .ne 6, 3) := by decide +kernel
theorem dX6_both_77 : decode cX6_both 77 = .ok (.iload 5, 2) := by decide +kernel
theorem dX6_both_79 : decode cX6_both 79 = .ok (.ireturn, 1) := by decide +kernel
theorem dX6_both_80 : decode cX6_both 80 = .ok (.iinc 5 1, 3) := by decide +kernel
theorem dX6_both_83 : decode cX6_both 83 = .ok (.goto (-44), 3) := by decide +kernel
theorem dX6_both_86 : decode cX6_both 86 = .ok (.aload_n 0, 1) := by decide +kernel
theorem dX6_both_87 : decode cX6_both 87 = .ok (.ldc 158, 2) := by decide +kernel
theorem dX6_both_89 : decode cX6_both 89 = .ok (.invokevirtual 59, 3) := by decide +kernel
theorem dX6_both_92 : decode cX6_both 92 = .ok (.ireturn, 1) := by decide +kernel
theorem dX6_trust_0 : decode cX6_trust 0 = .ok (.aload_n 0, 1) := by decide +kernel
theorem dX6_trust_1 : decode cX6_trust 1 = .ok (.iload_n 1, 1) := by decide +kernel
theorem dX6_trust_2 : decode cX6_trust 2 = .ok (.invokevirtual 113, 3) := by decide +kernel
theorem dX6_trust_5 : decode cX6_trust 5 = .ok (.ifCond .ne 10, 3) := by decide +kernel
theorem dX6_trust_8 : decode cX6_trust 8 = .ok (.aload_n 0, 1) := by decide +kernel
theorem dX6_trust_9 : decode cX6_trust 9 = .ok (.ldc 41, 2) := by decide +kernel
theorem dX6_trust_11 : decode cX6_trust 11 = .ok (.invokevirtual 59, 3) := by decide +kernel
theorem dX6_trust_14 : decode cX6_trust 14 = .ok (.ireturn, 1) := by decide +kernel
theorem dX6_trust_15 : decode cX6_trust 15 = .ok (.aload_n 0, 1) := by decide +kernel
theorem dX6_trust_16 : decode cX6_trust 16 = .ok (.iload_n 1, 1) := by decide +kernel
theorem dX6_trust_17 : decode cX6_trust 17 = .ok (.iconst 1, 1) := by decide +kernel
theorem dX6_trust_18 : decode cX6_trust 18 = .ok (.invokevirtual 118, 3) := by decide +kernel
theorem dX6_trust_21 : decode cX6_trust 21 = .ok (.istore_n 2, 1) := by decide +kernel
theorem dX6_trust_22 : decode cX6_trust 22 = .ok (.bipush (-2), 2) := by decide +kernel
theorem dX6_trust_24 : decode cX6_trust 24 = .ok (.istore_n 3, 1) := by decide +kernel
theorem dX6_trust_25 : decode cX6_trust 25 = .ok (.sipush 401, 3) := by decide +kernel
theorem dX6_trust_28 : decode cX6_trust 28 = .ok (.istore 4, 2) := by decide +kernel
theorem dX6_trust_30 : decode cX6_trust 30 = .ok (.iconst 0, 1) := by decide +kernel
theorem dX6_trust_31 : decode cX6_trust 31 = .ok (.istore 5, 2) := by decide +kernel
theorem dX6_trust_33 : decode cX6_trust 33 = .ok (.iload 5, 2) := by decide +kernel
theorem dX6_trust_35 : decode cX6_trust 35 = .ok (.aload_n 0, 1) := by decide +kernel
theorem dX6_trust_36 : decode cX6_trust 36 = .ok (.getfield 7, 3) := by decide +kernel
theorem dX6_trust_39 : decode cX6_trust 39 = .ok (.iconst 0, 1) := by decide +kernel
theorem dX6_trust_40 : decode cX6_trust 40 = .ok (.iaload, 1) := by decide +kernel
theorem dX6_trust_41 : decode cX6_trust 41 = .ok (.if_icmp .gt 77, 3) := by decide +kernel
theorem dX6_trust_44 : decode cX6_trust 44 = .ok (.iload 5, 2) := by decide +kernel
theorem dX6_trust_46 : decode cX6_trust 46 = .ok (.aload_n 0, 1) := by decide +kernel
theorem dX6_trust_47 : decode cX6_trust 47 = .ok (.getfield 7, 3) := by decide +kernel
theorem dX6_trust_50 : decode cX6_trust 50 = .ok (.iconst 0, 1) := by decide +kernel
theorem dX6_trust_51 : decode cX6_trust 51 = .ok (.iaload, 1) := by decide +kernel
theorem dX6_trust_52 : decode cX6_trust 52 = .ok (.if_icmp .ne 7, 3) := by decide +kernel
theorem dX6_trust_55 : decode cX6_trust 55 = .ok (.iconst (-1), 1) := by decide +kernel
theorem dX6_trust_56 : decode cX6_trust 56 = .ok (.goto 5, 3) := by decide +kernel
theorem dX6_trust_59 : decode cX6_trust 59 = .ok (.iload 5, 2) := by decide +kernel
theorem dX6_trust_61 : decode cX6_trust 61 = .ok (.istore 6, 2) := by decide +kernel
theorem dX6_trust_63 : decode cX6_trust 63 = .ok (.aload_n 0, 1) := by decide +kernel
theorem dX6_trust_64 : decode cX6_trust 64 = .ok (.getfield 7, 3) := by decide +kernel
theorem dX6_trust_67 : decode cX6_trust 67 = .ok (.iload_n 1, 1) := by decide +kernel
theorem dX6_trust_68 : decode cX6_trust 68 = .ok (.iconst 1, 1) := by decide +kernel
theorem dX6_trust_69 : decode cX6_trust 69 = .ok (.invokestatic 52, 3) := by decide +kernel
theorem dX6_trust_72 : decode cX6_trust 72 = .ok (.iload 6, 2) := by decide +kernel
theorem dX6_trust_74 : decode cX6_trust 74 = .ok (.iastore, 1) := by decide +kernel
theorem dX6_trust_75 : decode cX6_trust 75 = .ok (.aload_n 0, 1) := by decide +kernel
theorem dX6_trust_76 : decode cX6_trust 76 = .ok (.iload_n 1, 1) := by decide +kernel
theorem dX6_trust_77 : decode cX6_trust 77 = .ok (.invokevirtual 155, 3) := by decide +kernel
theorem dX6_trust_80 : decode cX6_trust 80 = .ok (.istore 7, 2) := by decide +kernel
theorem dX6_trust_82 : decode cX6_trust 82 = .ok (.iload 7, 2) := by decide +kernel
theorem dX6_trust_84 : decode cX6_trust 84 = .ok (.iload 4, 2) := by decide +kernel
theorem dX6_trust_86 : decode cX6_trust 86 = .ok (.if_icmp .ge 8, 3) := by decide +kernel
theorem dX6_trust_89 : decode cX6_trust 89 = .ok (.iload 6, 2) := by decide +kernel
theorem dX6_trust_91 : decode cX6_trust 91 = .ok (.goto 4, 3) := by decide +kernel
theorem dX6_trust_94 : decode cX6_trust 94 = .ok (.iload_n 3, 1) := by decide +kernel
theorem dX6_trust_95 : decode cX6_trust 95 = .ok (.istore_n 3, 1) := by decide +kernel
theorem dX6_trust_96 : decode cX6_trust 96 = .ok (.iload 7, 2) := by decide +kernel
theorem dX6_trust_98 : decode cX6_trust 98 = .ok (.iload 4, 2) := by decide +kernel
theorem dX6_trust_100 : decode cX6_trust 100 = .ok (.if_icmp .ge 8, 3) := by decide +kernel
theorem dX6_trust_103 : decode cX6_trust 103 = .ok (.iload 7, 2) := by decide +kernel
theorem dX6_trust_105 : decode cX6_trust 105 = .ok (.goto 5, 3) := by decide +kernel
theorem dX6_trust_108 : decode cX6_trust 108 = .ok (.iload 4, 2) := by decide +kernel
theorem dX6_trust_110 : decode cX6_trust 110 = .ok (.istore 4, 2) := by decide +kernel
theorem dX6_trust_112 : decode cX6_trust 112 = .ok (.iinc 5 1, 3) := by decide +kernel
theorem dX6_trust_115 : decode cX6_trust 115 = .ok (.goto (-82), 3) := by decide +kernel
theorem dX6_trust_118 : decode cX6_trust 118 = .ok (.aload_n 0, 1) := by decide +kernel
theorem dX6_trust_119 : decode cX6_trust 119 = .ok (.getfield 7, 3) := by decide +kernel
theorem dX6_trust_122 : decode cX6_trust 122 = .ok (.iload_n 1, 1) := by decide +kernel
theorem dX6_trust_123 : decode cX6_trust 123 = .ok (.iconst 1, 1) := by decide +kernel
theorem dX6_trust_124 : decode cX6_trust 124 = .ok (.invokestatic 52, 3) := by decide +kernel
theorem dX6_trust_127 : decode cX6_trust 127 = .ok (.iload_n 2, 1) := by decide +kernel
theorem dX6_trust_128 : decode cX6_trust 128 = .ok (.iastore, 1) := by decide +kernel
theorem dX6_trust_129 : decode cX6_trust 129 = .ok (.iload_n 3, 1) := by decide +kernel
theorem dX6_trust_130 : decode cX6_trust 130 = .ok (.bipush (-2), 2) := by decide +kernel
theorem dX6_trust_132 : decode cX6_trust 132 = .ok (.if_icmp .ne 12, 3) := by decide +kernel
theorem dX6_trust_135 : decode cX6_trust 135 = .ok (.aload_n 0, 1) := by decide +kernel
theorem dX6_trust_136 : decode cX6_trust 136 = .ok (.ldc 158, 2) := by decide +kernel
theorem dX6_trust_138 : decode cX6_trust 138 = .ok (.invokevirtual 59, 3) := by decide +kernel
theorem dX6_trust_141 : decode cX6_trust 141 = .ok (.goto 4, 3) := by decide +kernel
theorem dX6_trust_144 : decode cX6_trust 144 = .ok (.iload_n 3, 1) := by decide +kernel
theorem dX6_trust_145 : decode cX6_trust 145 = .ok (.ireturn, 1) := by decide +kernel
theorem dX6_truth_0 : decode cX6_truth 0 = .ok (.iload_n 1, 1) := by decide +kernel
theorem dX6_truth_1 : decode cX6_truth 1 = .ok (.i2l, 1) := by decide +kernel
theorem dX6_truth_2 : decode cX6_truth 2 = .ok (.lconst 1, 1) := by decide +kernel
theorem dX6_truth_3 : decode cX6_truth 3 = .ok (.ldc2_w 176, 3) := by decide +kernel
theorem dX6_truth_6 : decode cX6_truth 6 = .ok (.invokestatic 42, 3) := by decide +kernel
theorem dX6_truth_9 : decode cX6_truth 9 = .ok (.ifCond .ne 10, 3) := by decide +kernel
theorem dX6_truth_12 : decode cX6_truth 12 = .ok (.aload_n 0, 1) := by decide +kernel
theorem dX6_truth_13 : decode cX6_truth 13 = .ok (.ldc 41, 2) := by decide +kernel
theorem dX6_truth_15 : decode cX6_truth 15 = .ok (.invokevirtual 59, 3) := by decide +kernel
theorem dX6_truth_18 : decode cX6_truth 18 = .ok (.ireturn, 1) := by decide +kernel
theorem dX6_truth_19 : decode cX6_truth 19 = .ok (.aload_n 0, 1) := by decide +kernel
theorem dX6_truth_20 : decode cX6_truth 20 = .ok (.getfield 7, 3) := by decide +kernel
theorem dX6_truth_23 : decode cX6_truth 23 = .ok (.iconst 4, 1) := by decide +kernel
theorem dX6_truth_24 : decode cX6_truth 24 = .ok (.iaload, 1) := by decide +kernel
theorem dX6_truth_25 : decode cX6_truth 25 = .ok (.istore_n 2, 1) := by decide +kernel
theorem dX6_truth_26 : decode cX6_truth 26 = .ok (.iconst (-1), 1) := by decide +kernel
theorem dX6_truth_27 : decode cX6_truth 27 = .ok (.istore_n 3, 1) := by decide +kernel
theorem dX6_truth_28 : decode cX6_truth 28 = .ok (.iconst 0, 1) := by decide +kernel
theorem dX6_truth_29 : decode cX6_truth 29 = .ok (.istore 4, 2) := by decide +kernel
theorem dX6_truth_31 : decode cX6_truth 31 = .ok (.iconst 0, 1) := by decide +kernel
theorem dX6_truth_32 : decode cX6_truth 32 = .ok (.istore 5, 2) := by decide +kernel
theorem dX6_truth_34 : decode cX6_truth 34 = .ok (.iload 5, 2) := by decide +kernel
theorem dX6_truth_36 : decode cX6_truth 36 = .ok (.aload_n 0, 1) := by decide +kernel
theorem dX6_truth_37 : decode cX6_truth 37 = .ok (.getfield 7, 3) := by decide +kernel
theorem dX6_truth_40 : decode cX6_truth 40 = .ok (.iconst 0, 1) := by decide +kernel
theorem dX6_truth_41 : decode cX6_truth 41 = .ok (.iaload, 1) := by decide +kernel
theorem dX6_truth_42 : decode cX6_truth 42 = .ok (.if_icmp .ge 70, 3) := by decide +kernel
theorem dX6_truth_45 : decode cX6_truth 45 = .ok (.aload_n 0, 1) := by decide +kernel
theorem dX6_truth_46 : decode cX6_truth 46 = .ok (.getfield 7, 3) := by decide +kernel
theorem dX6_truth_49 : decode cX6_truth 49 = .ok (.iconst 4, 1) := by decide +kernel
theorem dX6_truth_50 : decode cX6_truth 50 = .ok (.iload 5, 2) := by decide +kernel
theorem dX6_truth_52 : decode cX6_truth 52 = .ok (.iastore, 1) := by decide +kernel
theorem dX6_truth_53 : decode cX6_truth 53 = .ok (.aload_n 0, 1) := by decide +kernel
theorem dX6_truth_54 : decode cX6_truth 54 = .ok (.invokevirtual 149, 3) := by decide +kernel
theorem dX6_truth_57 : decode cX6_truth 57 = .ok (.aload_n 0, 1) := by decide +kernel
theorem dX6_truth_58 : decode cX6_truth 58 = .ok (.iload_n 1, 1) := by decide +kernel
theorem dX6_truth_59 : decode cX6_truth 59 = .ok (.invokevirtual 136, 3) := by decide +kernel
theorem dX6_truth_62 : decode cX6_truth 62 = .ok (.aload_n 0, 1) := by decide +kernel
theorem dX6_truth_63 : decode cX6_truth 63 = .ok (.aload_n 0, 1) := by decide +kernel
theorem dX6_truth_64 : decode cX6_truth 64 = .ok (.iconst 0, 1) := by decide +kernel
theorem dX6_truth_65 : decode cX6_truth 65 = .ok (.invokevirtual 146, 3) := by decide +kernel
theorem dX6_truth_68 : decode cX6_truth 68 = .ok (.invokevirtual 152, 3) := by decide +kernel
theorem dX6_truth_71 : decode cX6_truth 71 = .ok (.istore 6, 2) := by decide +kernel
theorem dX6_truth_73 : decode cX6_truth 73 = .ok (.iload_n 3, 1) := by decide +kernel
theorem dX6_truth_74 : decode cX6_truth 74 = .ok (.ifCond .lt 10, 3) := by decide +kernel
theorem dX6_truth_77 : decode cX6_truth 77 = .ok (.iload 6, 2) := by decide +kernel
theorem dX6_truth_79 : decode cX6_truth 79 = .ok (.iload 4, 2) := by decide +kernel
theorem dX6_truth_81 : decode cX6_truth 81 = .ok (.if_icmp .ge 8, 3) := by decide +kernel
theorem dX6_truth_84 : decode cX6_truth 84 = .ok (.iload 5, 2) := by decide +kernel
theorem dX6_truth_86 : decode cX6_truth 86 = .ok (.goto 4, 3) := by decide +kernel
theorem dX6_truth_89 : decode cX6_truth 89 = .ok (.iload_n 3, 1) := by decide +kernel
theorem dX6_truth_90 : decode cX6_truth 90 = .ok (.istore_n 3, 1) := by decide +kernel
theorem dX6_truth_91 : decode cX6_truth 91 = .ok (.iload_n 3, 1) := by decide +kernel
theorem dX6_truth_92 : decode cX6_truth 92 = .ok (.iload 5, 2) := by decide +kernel
theorem dX6_truth_94 : decode cX6_truth 94 = .ok (.if_icmp .ne 8, 3) := by decide +kernel
theorem dX6_truth_97 : decode cX6_truth 97 = .ok (.iload 6, 2) := by decide +kernel
theorem dX6_truth_99 : decode cX6_truth 99 = .ok (.goto 5, 3) := by decide +kernel
theorem dX6_truth_102 : decode cX6_truth 102 = .ok (.iload 4, 2) := by decide +kernel
theorem dX6_truth_104 : decode cX6_truth 104 = .ok (.istore 4, 2) := by decide +kernel
theorem dX6_truth_106 : decode cX6_truth 106 = .ok (.iinc 5 1, 3) := by decide +kernel
theorem dX6_truth_109 : decode cX6_truth 109 = .ok (.goto (-75), 3) := by decide +kernel
theorem dX6_truth_112 : decode cX6_truth 112 = .ok (.aload_n 0, 1) := by decide +kernel
theorem dX6_truth_113 : decode cX6_truth 113 = .ok (.getfield 7, 3) := by decide +kernel
theorem dX6_truth_116 : decode cX6_truth 116 = .ok (.iconst 4, 1) := by decide +kernel
theorem dX6_truth_117 : decode cX6_truth 117 = .ok (.iload_n 2, 1) := by decide +kernel
theorem dX6_truth_118 : decode cX6_truth 118 = .ok (.iastore, 1) := by decide +kernel
theorem dX6_truth_119 : decode cX6_truth 119 = .ok (.iload_n 3, 1) := by decide +kernel
theorem dX6_truth_120 : decode cX6_truth 120 = .ok (.ifCond .ge 12, 3) := by decide +kernel
theorem dX6_truth_123 : decode cX6_truth 123 = .ok (.aload_n 0, 1) := by decide +kernel
theorem dX6_truth_124 : decode cX6_truth 124 = .ok (.ldc 158, 2) := by decide +kernel
theorem dX6_truth_126 : decode cX6_truth 126 = .ok (.invokevirtual 59, 3) := by decide +kernel
theorem dX6_truth_129 : decode cX6_truth 129 = .ok (.goto 4, 3) := by decide +kernel
theorem dX6_truth_132 : decode cX6_truth 132 = .ok (.iload_n 3, 1) := by decide +kernel
theorem dX6_truth_133 : decode cX6_truth 133 = .ok (.ireturn, 1) := by decide +kernel
theorem dX6_cure_0 : decode cX6_cure 0 = .ok (.aload_n 0, 1) := by decide +kernel
theorem dX6_cure_1 : decode cX6_cure 1 = .ok (.iload_n 1, 1) := by decide +kernel
theorem dX6_cure_2 : decode cX6_cure 2 = .ok (.invokevirtual 113, 3) := by decide +kernel
theorem dX6_cure_5 : decode cX6_cure 5 = .ok (.ifCond .ne 10, 3) := by decide +kernel
theorem dX6_cure_8 : decode cX6_cure 8 = .ok (.aload_n 0, 1) := by decide +kernel
theorem dX6_cure_9 : decode cX6_cure 9 = .ok (.ldc 41, 2) := by decide +kernel
theorem dX6_cure_11 : decode cX6_cure 11 = .ok (.invokevirtual 59, 3) := by decide +kernel
theorem dX6_cure_14 : decode cX6_cure 14 = .ok (.ireturn, 1) := by decide +kernel
theorem dX6_cure_15 : decode cX6_cure 15 = .ok (.aload_n 0, 1) := by decide +kernel
theorem dX6_cure_16 : decode cX6_cure 16 = .ok (.iload_n 1, 1) := by decide +kernel
theorem dX6_cure_17 : decode cX6_cure 17 = .ok (.iconst 0, 1) := by decide +kernel
theorem dX6_cure_18 : decode cX6_cure 18 = .ok (.invokevirtual 118, 3) := by decide +kernel
theorem dX6_cure_21 : decode cX6_cure 21 = .ok (.istore_n 2, 1) := by decide +kernel
theorem dX6_cure_22 : decode cX6_cure 22 = .ok (.iload_n 2, 1) := by decide +kernel
theorem dX6_cure_23 : decode cX6_cure 23 = .ok (.ifCond .ne 10, 3) := by decide +kernel
theorem dX6_cure_26 : decode cX6_cure 26 = .ok (.aload_n 0, 1) := by decide +kernel
theorem dX6_cure_27 : decode cX6_cure 27 = .ok (.ldc 121, 2) := by decide +kernel
theorem dX6_cure_29 : decode cX6_cure 29 = .ok (.invokevirtual 59, 3) := by decide +kernel
theorem dX6_cure_32 : decode cX6_cure 32 = .ok (.ireturn, 1) := by decide +kernel
theorem dX6_cure_33 : decode cX6_cure 33 = .ok (.aload_n 0, 1) := by decide +kernel
theorem dX6_cure_34 : decode cX6_cure 34 = .ok (.getfield 7, 3) := by decide +kernel
theorem dX6_cure_37 : decode cX6_cure 37 = .ok (.iconst 2, 1) := by decide +kernel
theorem dX6_cure_38 : decode cX6_cure 38 = .ok (.iaload, 1) := by decide +kernel
theorem dX6_cure_39 : decode cX6_cure 39 = .ok (.istore_n 3, 1) := by decide +kernel
theorem dX6_cure_40 : decode cX6_cure 40 = .ok (.iload_n 3, 1) := by decide +kernel
theorem dX6_cure_41 : decode cX6_cure 41 = .ok (.aload_n 0, 1) := by decide +kernel
theorem dX6_cure_42 : decode cX6_cure 42 = .ok (.getfield 7, 3) := by decide +kernel
theorem dX6_cure_45 : decode cX6_cure 45 = .ok (.iconst 2, 1) := by decide +kernel
theorem dX6_cure_46 : decode cX6_cure 46 = .ok (.iaload, 1) := by decide +kernel
theorem dX6_cure_47 : decode cX6_cure 47 = .ok (.sipush 2000, 3) := by decide +kernel
theorem dX6_cure_50 : decode cX6_cure 50 = .ok (.iadd, 1) := by decide +kernel
theorem dX6_cure_51 : decode cX6_cure 51 = .ok (.if_icmp .gt 42, 3) := by decide +kernel
theorem dX6_cure_54 : decode cX6_cure 54 = .ok (.iload_n 2, 1) := by decide +kernel
theorem dX6_cure_55 : decode cX6_cure 55 = .ok (.aload_n 0, 1) := by decide +kernel
theorem dX6_cure_56 : decode cX6_cure 56 = .ok (.aload_n 0, 1) := by decide +kernel
theorem dX6_cure_57 : decode cX6_cure 57 = .ok (.getfield 7, 3) := by decide +kernel
theorem dX6_cure_60 : decode cX6_cure 60 = .ok (.iconst 4, 1) := by decide +kernel
theorem dX6_cure_61 : decode cX6_cure 61 = .ok (.iaload, 1) := by decide +kernel
theorem dX6_cure_62 : decode cX6_cure 62 = .ok (.iload_n 3, 1) := by decide +kernel
theorem dX6_cure_63 : decode cX6_cure 63 = .ok (.invokevirtual 102, 3) := by decide +kernel
theorem dX6_cure_66 : decode cX6_cure 66 = .ok (.ifCond .eq 12, 3) := by decide +kernel
theorem dX6_cure_69 : decode cX6_cure 69 = .ok (.aload_n 0, 1) := by decide +kernel
theorem dX6_cure_70 : decode cX6_cure 70 = .ok (.getfield 7, 3) := by decide +kernel
theorem dX6_cure_73 : decode cX6_cure 73 = .ok (.iconst 3, 1) := by decide +kernel
theorem dX6_cure_74 : decode cX6_cure 74 = .ok (.iaload, 1) := by decide +kernel
theorem dX6_cure_75 : decode cX6_cure 75 = .ok (.goto 4, 3) := by decide +kernel
theorem dX6_cure_78 : decode cX6_cure 78 = .ok (.iconst 0, 1) := by decide +kernel
theorem dX6_cure_79 : decode cX6_cure 79 = .ok (.isub, 1) := by decide +kernel
theorem dX6_cure_80 : decode cX6_cure 80 = .ok (.istore_n 2, 1) := by decide +kernel
theorem dX6_cure_81 : decode cX6_cure 81 = .ok (.iload_n 2, 1) := by decide +kernel
theorem dX6_cure_82 : decode cX6_cure 82 = .ok (.ifCond .gt 5, 3) := by decide +kernel
theorem dX6_cure_85 : decode cX6_cure 85 = .ok (.iload_n 3, 1) := by decide +kernel
theorem dX6_cure_86 : decode cX6_cure 86 = .ok (.ireturn, 1) := by decide +kernel
theorem dX6_cure_87 : decode cX6_cure 87 = .ok (.iinc 3 1, 3) := by decide +kernel
theorem dX6_cure_90 : decode cX6_cure 90 = .ok (.goto (-50), 3) := by decide +kernel
theorem dX6_cure_93 : decode cX6_cure 93 = .ok (.aload_n 0, 1) := by decide +kernel
theorem dX6_cure_94 : decode cX6_cure 94 = .ok (.ldc 158, 2) := by decide +kernel
theorem dX6_cure_96 : decode cX6_cure 96 = .ok (.invokevirtual 59, 3) := by decide +kernel
theorem dX6_cure_99 : decode cX6_cure 99 = .ok (.ireturn, 1) := by decide +kernel
theorem dX6_mostAgreed_0 : decode cX6_mostAgreed 0 = .ok (.bipush 7, 2) := by decide +kernel
theorem dX6_mostAgreed_2 : decode cX6_mostAgreed 2 = .ok (.iconst 5, 1) := by decide +kernel
theorem dX6_mostAgreed_3 : decode cX6_mostAgreed 3 = .ok (.iload_n 1, 1) := by decide +kernel
theorem dX6_mostAgreed_4 : decode cX6_mostAgreed 4 = .ok (.imul, 1) := by decide +kernel
theorem dX6_mostAgreed_5 : decode cX6_mostAgreed 5 = .ok (.iadd, 1) := by decide +kernel
theorem dX6_mostAgreed_6 : decode cX6_mostAgreed 6 = .ok (.iload_n 2, 1) := by decide +kernel
theorem dX6_mostAgreed_7 : decode cX6_mostAgreed 7 = .ok (.iadd, 1) := by decide +kernel
theorem dX6_mostAgreed_8 : decode cX6_mostAgreed 8 = .ok (.istore 5, 2) := by decide +kernel
theorem dX6_mostAgreed_10 : decode cX6_mostAgreed 10 = .ok (.aload_n 0, 1) := by decide +kernel
theorem dX6_mostAgreed_11 : decode cX6_mostAgreed 11 = .ok (.getfield 7, 3) := by decide +kernel
theorem dX6_mostAgreed_14 : decode cX6_mostAgreed 14 = .ok (.iload 5, 2) := by decide +kernel
theorem dX6_mostAgreed_16 : decode cX6_mostAgreed 16 = .ok (.iaload, 1) := by decide +kernel
theorem dX6_mostAgreed_17 : decode cX6_mostAgreed 17 = .ok (.istore 6, 2) := by decide +kernel
theorem dX6_mostAgreed_19 : decode cX6_mostAgreed 19 = .ok (.iconst 0, 1) := by decide +kernel
theorem dX6_mostAgreed_20 : decode cX6_mostAgreed 20 = .ok (.istore 7, 2) := by decide +kernel
theorem dX6_mostAgreed_22 : decode cX6_mostAgreed 22 = .ok (.iconst (-1), 1) := by decide +kernel
theorem dX6_mostAgreed_23 : decode cX6_mostAgreed 23 = .ok (.istore 8, 2) := by decide +kernel
theorem dX6_mostAgreed_25 : decode cX6_mostAgreed 25 = .ok (.iconst 0, 1) := by decide +kernel
theorem dX6_mostAgreed_26 : decode cX6_mostAgreed 26 = .ok (.istore 9, 2) := by decide +kernel
theorem dX6_mostAgreed_28 : decode cX6_mostAgreed 28 = .ok (.iload 9, 2) := by decide +kernel
theorem dX6_mostAgreed_30 : decode cX6_mostAgreed 30 = .ok (.iload_n 3, 1) := by decide +kernel
theorem dX6_mostAgreed_31 : decode cX6_mostAgreed 31 = .ok (.if_icmp .ge 65, 3) := by decide +kernel
theorem dX6_mostAgreed_34 : decode cX6_mostAgreed 34 = .ok (.aload_n 0, 1) := by decide +kernel
theorem dX6_mostAgreed_35 : decode cX6_mostAgreed 35 = .ok (.getfield 7, 3) := by decide +kernel
theorem dX6_mostAgreed_38 : decode cX6_mostAgreed 38 = .ok (.iload 5, 2) := by decide +kernel
theorem dX6_mostAgreed_40 : decode cX6_mostAgreed 40 = .ok (.iload 9, 2) := by decide +kernel
theorem dX6_mostAgreed_42 : decode cX6_mostAgreed 42 = .ok (.iastore, 1) := by decide +kernel
theorem dX6_mostAgreed_43 : decode cX6_mostAgreed 43 = .ok (.aload_n 0, 1) := by decide +kernel
theorem dX6_mostAgreed_44 : decode cX6_mostAgreed 44 = .ok (.iload_n 1, 1) := by decide +kernel
theorem dX6_mostAgreed_45 : decode cX6_mostAgreed 45 = .ok (.aload_n 0, 1) := by decide +kernel
theorem dX6_mostAgreed_46 : decode cX6_mostAgreed 46 = .ok (.getfield 7, 3) := by decide +kernel
theorem dX6_mostAgreed_49 : decode cX6_mostAgreed 49 = .ok (.iconst 4, 1) := by decide +kernel
theorem dX6_mostAgreed_50 : decode cX6_mostAgreed 50 = .ok (.iaload, 1) := by decide +kernel
theorem dX6_mostAgreed_51 : decode cX6_mostAgreed 51 = .ok (.iload 4, 2) := by decide +kernel
theorem dX6_mostAgreed_53 : decode cX6_mostAgreed 53 = .ok (.invokevirtual 166, 3) := by decide +kernel
theorem dX6_mostAgreed_56 : decode cX6_mostAgreed 56 = .ok (.istore 10, 2) := by decide +kernel
theorem dX6_mostAgreed_58 : decode cX6_mostAgreed 58 = .ok (.iload 10, 2) := by decide +kernel
theorem dX6_mostAgreed_60 : decode cX6_mostAgreed 60 = .ok (.iload 8, 2) := by decide +kernel
theorem dX6_mostAgreed_62 : decode cX6_mostAgreed 62 = .ok (.if_icmp .le 8, 3) := by decide +kernel
theorem dX6_mostAgreed_65 : decode cX6_mostAgreed 65 = .ok (.iload 9, 2) := by decide +kernel
theorem dX6_mostAgreed_67 : decode cX6_mostAgreed 67 = .ok (.goto 5, 3) := by decide +kernel
theorem dX6_mostAgreed_70 : decode cX6_mostAgreed 70 = .ok (.iload 7, 2) := by decide +kernel
theorem dX6_mostAgreed_72 : decode cX6_mostAgreed 72 = .ok (.istore 7, 2) := by decide +kernel
theorem dX6_mostAgreed_74 : decode cX6_mostAgreed 74 = .ok (.iload 10, 2) := by decide +kernel
theorem dX6_mostAgreed_76 : decode cX6_mostAgreed 76 = .ok (.iload 8, 2) := by decide +kernel
theorem dX6_mostAgreed_78 : decode cX6_mostAgreed 78 = .ok (.if_icmp .le 8, 3) := by decide +kernel
theorem dX6_mostAgreed_81 : decode cX6_mostAgreed 81 = .ok (.iload 10, 2) := by decide +kernel
theorem dX6_mostAgreed_83 : decode cX6_mostAgreed 83 = .ok (.goto 5, 3) := by decide +kernel
theorem dX6_mostAgreed_86 : decode cX6_mostAgreed 86 = .ok (.iload 8, 2) := by decide +kernel
theorem dX6_mostAgreed_88 : decode cX6_mostAgreed 88 = .ok (.istore 8, 2) := by decide +kernel
theorem dX6_mostAgreed_90 : decode cX6_mostAgreed 90 = .ok (.iinc 9 1, 3) := by decide +kernel
theorem dX6_mostAgreed_93 : decode cX6_mostAgreed 93 = .ok (.goto (-65), 3) := by decide +kernel
theorem dX6_mostAgreed_96 : decode cX6_mostAgreed 96 = .ok (.aload_n 0, 1) := by decide +kernel
theorem dX6_mostAgreed_97 : decode cX6_mostAgreed 97 = .ok (.getfield 7, 3) := by decide +kernel
theorem dX6_mostAgreed_100 : decode cX6_mostAgreed 100 = .ok (.iload 5, 2) := by decide +kernel
theorem dX6_mostAgreed_102 : decode cX6_mostAgreed 102 = .ok (.iload 6, 2) := by decide +kernel
theorem dX6_mostAgreed_104 : decode cX6_mostAgreed 104 = .ok (.iastore, 1) := by decide +kernel
theorem dX6_mostAgreed_105 : decode cX6_mostAgreed 105 = .ok (.iload 7, 2) := by decide +kernel
theorem dX6_mostAgreed_107 : decode cX6_mostAgreed 107 = .ok (.ireturn, 1) := by decide +kernel
theorem dX6_kind_0 : decode cX6_kind 0 = .ok (.aload_n 0, 1) := by decide +kernel
theorem dX6_kind_1 : decode cX6_kind 1 = .ok (.iload_n 1, 1) := by decide +kernel
theorem dX6_kind_2 : decode cX6_kind 2 = .ok (.invokevirtual 46, 3) := by decide +kernel
theorem dX6_kind_5 : decode cX6_kind 5 = .ok (.ifCond .eq 15, 3) := by decide +kernel
theorem dX6_kind_8 : decode cX6_kind 8 = .ok (.iload_n 2, 1) := by decide +kernel
theorem dX6_kind_9 : decode cX6_kind 9 = .ok (.i2l, 1) := by decide +kernel
theorem dX6_kind_10 : decode cX6_kind 10 = .ok (.lconst 1, 1) := by decide +kernel
theorem dX6_kind_11 : decode cX6_kind 11 = .ok (.ldc2_w 133, 3) := by decide +kernel
theorem dX6_kind_14 : decode cX6_kind 14 = .ok (.invokestatic 42, 3) := by decide +kernel
theorem dX6_kind_17 : decode cX6_kind 17 = .ok (.ifCond .ne 10, 3) := by decide +kernel
theorem dX6_kind_20 : decode cX6_kind 20 = .ok (.aload_n 0, 1) := by decide +kernel
theorem dX6_kind_21 : decode cX6_kind 21 = .ok (.ldc 41, 2) := by decide +kernel
theorem dX6_kind_23 : decode cX6_kind 23 = .ok (.invokevirtual 59, 3) := by decide +kernel
theorem dX6_kind_26 : decode cX6_kind 26 = .ok (.ireturn, 1) := by decide +kernel
theorem dX6_kind_27 : decode cX6_kind 27 = .ok (.aload_n 0, 1) := by decide +kernel
theorem dX6_kind_28 : decode cX6_kind 28 = .ok (.aload_n 0, 1) := by decide +kernel
theorem dX6_kind_29 : decode cX6_kind 29 = .ok (.getfield 7, 3) := by decide +kernel
theorem dX6_kind_32 : decode cX6_kind 32 = .ok (.iconst 4, 1) := by decide +kernel
theorem dX6_kind_33 : decode cX6_kind 33 = .ok (.iaload, 1) := by decide +kernel
theorem dX6_kind_34 : decode cX6_kind 34 = .ok (.invokevirtual 46, 3) := by decide +kernel
theorem dX6_kind_37 : decode cX6_kind 37 = .ok (.ifCond .eq 15, 3) := by decide +kernel
theorem dX6_kind_40 : decode cX6_kind 40 = .ok (.aload_n 0, 1) := by decide +kernel
theorem dX6_kind_41 : decode cX6_kind 41 = .ok (.iload_n 1, 1) := by decide +kernel
theorem dX6_kind_42 : decode cX6_kind 42 = .ok (.iconst 0, 1) := by decide +kernel
theorem dX6_kind_43 : decode cX6_kind 43 = .ok (.bipush 6, 2) := by decide +kernel
theorem dX6_kind_45 : decode cX6_kind 45 = .ok (.iload_n 2, 1) := by decide +kernel
theorem dX6_kind_46 : decode cX6_kind 46 = .ok (.invokevirtual 178, 3) := by decide +kernel
theorem dX6_kind_49 : decode cX6_kind 49 = .ok (.goto 9, 3) := by decide +kernel
theorem dX6_kind_52 : decode cX6_kind 52 = .ok (.aload_n 0, 1) := by decide +kernel
theorem dX6_kind_53 : decode cX6_kind 53 = .ok (.ldc 121, 2) := by decide +kernel
theorem dX6_kind_55 : decode cX6_kind 55 = .ok (.invokevirtual 59, 3) := by decide +kernel
theorem dX6_kind_58 : decode cX6_kind 58 = .ok (.ireturn, 1) := by decide +kernel
theorem dX6_begin_0 : decode cX6_begin 0 = .ok (.aload_n 0, 1) := by decide +kernel
theorem dX6_begin_1 : decode cX6_begin 1 = .ok (.iload_n 1, 1) := by decide +kernel
theorem dX6_begin_2 : decode cX6_begin 2 = .ok (.invokevirtual 46, 3) := by decide +kernel
theorem dX6_begin_5 : decode cX6_begin 5 = .ok (.ifCond .eq 15, 3) := by decide +kernel
theorem dX6_begin_8 : decode cX6_begin 8 = .ok (.iload_n 2, 1) := by decide +kernel
theorem dX6_begin_9 : decode cX6_begin 9 = .ok (.i2l, 1) := by decide +kernel
theorem dX6_begin_10 : decode cX6_begin 10 = .ok (.lconst 1, 1) := by decide +kernel
theorem dX6_begin_11 : decode cX6_begin 11 = .ok (.ldc2_w 176, 3) := by decide +kernel
theorem dX6_begin_14 : decode cX6_begin 14 = .ok (.invokestatic 42, 3) := by decide +kernel
theorem dX6_begin_17 : decode cX6_begin 17 = .ok (.ifCond .ne 10, 3) := by decide +kernel
theorem dX6_begin_20 : decode cX6_begin 20 = .ok (.aload_n 0, 1) := by decide +kernel
theorem dX6_begin_21 : decode cX6_begin 21 = .ok (.ldc 41, 2) := by decide +kernel
theorem dX6_begin_23 : decode cX6_begin 23 = .ok (.invokevirtual 59, 3) := by decide +kernel
theorem dX6_begin_26 : decode cX6_begin 26 = .ok (.ireturn, 1) := by decide +kernel
theorem dX6_begin_27 : decode cX6_begin 27 = .ok (.aload_n 0, 1) := by decide +kernel
theorem dX6_begin_28 : decode cX6_begin 28 = .ok (.aload_n 0, 1) := by decide +kernel
theorem dX6_begin_29 : decode cX6_begin 29 = .ok (.getfield 7, 3) := by decide +kernel
theorem dX6_begin_32 : decode cX6_begin 32 = .ok (.iconst 4, 1) := by decide +kernel
theorem dX6_begin_33 : decode cX6_begin 33 = .ok (.iaload, 1) := by decide +kernel
theorem dX6_begin_34 : decode cX6_begin 34 = .ok (.invokevirtual 46, 3) := by decide +kernel
theorem dX6_begin_37 : decode cX6_begin 37 = .ok (.ifCond .eq 15, 3) := by decide +kernel
theorem dX6_begin_40 : decode cX6_begin 40 = .ok (.aload_n 0, 1) := by decide +kernel
theorem dX6_begin_41 : decode cX6_begin 41 = .ok (.iload_n 1, 1) := by decide +kernel
theorem dX6_begin_42 : decode cX6_begin 42 = .ok (.iconst 1, 1) := by decide +kernel
theorem dX6_begin_43 : decode cX6_begin 43 = .ok (.bipush 100, 2) := by decide +kernel
theorem dX6_begin_45 : decode cX6_begin 45 = .ok (.iload_n 2, 1) := by decide +kernel
theorem dX6_begin_46 : decode cX6_begin 46 = .ok (.invokevirtual 178, 3) := by decide +kernel
theorem dX6_begin_49 : decode cX6_begin 49 = .ok (.goto 9, 3) := by decide +kernel
theorem dX6_begin_52 : decode cX6_begin 52 = .ok (.aload_n 0, 1) := by decide +kernel
theorem dX6_begin_53 : decode cX6_begin 53 = .ok (.ldc 121, 2) := by decide +kernel
theorem dX6_begin_55 : decode cX6_begin 55 = .ok (.invokevirtual 59, 3) := by decide +kernel
theorem dX6_begin_58 : decode cX6_begin 58 = .ok (.ireturn, 1) := by decide +kernel
theorem dX6_power_0 : decode cX6_power 0 = .ok (.iload_n 1, 1) := by decide +kernel
theorem dX6_power_1 : decode cX6_power 1 = .ok (.i2l, 1) := by decide +kernel
theorem dX6_power_2 : decode cX6_power 2 = .ok (.lconst 1, 1) := by decide +kernel
theorem dX6_power_3 : decode cX6_power 3 = .ok (.ldc2_w 176, 3) := by decide +kernel
theorem dX6_power_6 : decode cX6_power 6 = .ok (.invokestatic 42, 3) := by decide +kernel
theorem dX6_power_9 : decode cX6_power 9 = .ok (.ifCond .ne 10, 3) := by decide +kernel
theorem dX6_power_12 : decode cX6_power 12 = .ok (.aload_n 0, 1) := by decide +kernel
theorem dX6_power_13 : decode cX6_power 13 = .ok (.ldc 41, 2) := by decide +kernel
theorem dX6_power_15 : decode cX6_power 15 = .ok (.invokevirtual 59, 3) := by decide +kernel
theorem dX6_power_18 : decode cX6_power 18 = .ok (.ireturn, 1) := by decide +kernel
theorem dX6_power_19 : decode cX6_power 19 = .ok (.aload_n 0, 1) := by decide +kernel
theorem dX6_power_20 : decode cX6_power 20 = .ok (.getfield 7, 3) := by decide +kernel
theorem dX6_power_23 : decode cX6_power 23 = .ok (.iconst 3, 1) := by decide +kernel
theorem dX6_power_24 : decode cX6_power 24 = .ok (.iaload, 1) := by decide +kernel
theorem dX6_power_25 : decode cX6_power 25 = .ok (.istore_n 2, 1) := by decide +kernel
theorem dX6_power_26 : decode cX6_power 26 = .ok (.iconst 0, 1) := by decide +kernel
theorem dX6_power_27 : decode cX6_power 27 = .ok (.istore_n 3, 1) := by decide +kernel
theorem dX6_power_28 : decode cX6_power 28 = .ok (.iconst (-1), 1) := by decide +kernel
theorem dX6_power_29 : decode cX6_power 29 = .ok (.istore 4, 2) := by decide +kernel
theorem dX6_power_31 : decode cX6_power 31 = .ok (.iconst 1, 1) := by decide +kernel
theorem dX6_power_32 : decode cX6_power 32 = .ok (.istore 5, 2) := by decide +kernel
theorem dX6_power_34 : decode cX6_power 34 = .ok (.iload 5, 2) := by decide +kernel
theorem dX6_power_36 : decode cX6_power 36 = .ok (.bipush 50, 2) := by decide +kernel
theorem dX6_power_38 : decode cX6_power 38 = .ok (.if_icmp .gt 69, 3) := by decide +kernel
theorem dX6_power_41 : decode cX6_power 41 = .ok (.aload_n 0, 1) := by decide +kernel
theorem dX6_power_42 : decode cX6_power 42 = .ok (.getfield 7, 3) := by decide +kernel
theorem dX6_power_45 : decode cX6_power 45 = .ok (.iconst 3, 1) := by decide +kernel
theorem dX6_power_46 : decode cX6_power 46 = .ok (.iload 5, 2) := by decide +kernel
theorem dX6_power_48 : decode cX6_power 48 = .ok (.iastore, 1) := by decide +kernel
theorem dX6_power_49 : decode cX6_power 49 = .ok (.aload_n 0, 1) := by decide +kernel
theorem dX6_power_50 : decode cX6_power 50 = .ok (.invokevirtual 149, 3) := by decide +kernel
theorem dX6_power_53 : decode cX6_power 53 = .ok (.aload_n 0, 1) := by decide +kernel
theorem dX6_power_54 : decode cX6_power 54 = .ok (.iload_n 1, 1) := by decide +kernel
theorem dX6_power_55 : decode cX6_power 55 = .ok (.invokevirtual 136, 3) := by decide +kernel
theorem dX6_power_58 : decode cX6_power 58 = .ok (.aload_n 0, 1) := by decide +kernel
theorem dX6_power_59 : decode cX6_power 59 = .ok (.aload_n 0, 1) := by decide +kernel
theorem dX6_power_60 : decode cX6_power 60 = .ok (.invokevirtual 139, 3) := by decide +kernel
theorem dX6_power_63 : decode cX6_power 63 = .ok (.invokestatic 143, 3) := by decide +kernel
theorem dX6_power_66 : decode cX6_power 66 = .ok (.invokevirtual 152, 3) := by decide +kernel
theorem dX6_power_69 : decode cX6_power 69 = .ok (.istore 6, 2) := by decide +kernel
theorem dX6_power_71 : decode cX6_power 71 = .ok (.iload 6, 2) := by decide +kernel
theorem dX6_power_73 : decode cX6_power 73 = .ok (.iload 4, 2) := by decide +kernel
theorem dX6_power_75 : decode cX6_power 75 = .ok (.if_icmp .le 8, 3) := by decide +kernel
theorem dX6_power_78 : decode cX6_power 78 = .ok (.iload 5, 2) := by decide +kernel
theorem dX6_power_80 : decode cX6_power 80 = .ok (.goto 4, 3) := by decide +kernel
theorem dX6_power_83 : decode cX6_power 83 = .ok (.iload_n 3, 1) := by decide +kernel
theorem dX6_power_84 : decode cX6_power 84 = .ok (.istore_n 3, 1) := by decide +kernel
theorem dX6_power_85 : decode cX6_power 85 = .ok (.iload 6, 2) := by decide +kernel
theorem dX6_power_87 : decode cX6_power 87 = .ok (.iload 4, 2) := by decide +kernel
theorem dX6_power_89 : decode cX6_power 89 = .ok (.if_icmp .le 8, 3) := by decide +kernel
theorem dX6_power_92 : decode cX6_power 92 = .ok (.iload 6, 2) := by decide +kernel
theorem dX6_power_94 : decode cX6_power 94 = .ok (.goto 5, 3) := by decide +kernel
theorem dX6_power_97 : decode cX6_power 97 = .ok (.iload 4, 2) := by decide +kernel
theorem dX6_power_99 : decode cX6_power 99 = .ok (.istore 4, 2) := by decide +kernel
theorem dX6_power_101 : decode cX6_power 101 = .ok (.iinc 5 1, 3) := by decide +kernel
theorem dX6_power_104 : decode cX6_power 104 = .ok (.goto (-70), 3) := by decide +kernel
theorem dX6_power_107 : decode cX6_power 107 = .ok (.aload_n 0, 1) := by decide +kernel
theorem dX6_power_108 : decode cX6_power 108 = .ok (.getfield 7, 3) := by decide +kernel
theorem dX6_power_111 : decode cX6_power 111 = .ok (.iconst 3, 1) := by decide +kernel
theorem dX6_power_112 : decode cX6_power 112 = .ok (.iload_n 2, 1) := by decide +kernel
theorem dX6_power_113 : decode cX6_power 113 = .ok (.iastore, 1) := by decide +kernel
theorem dX6_power_114 : decode cX6_power 114 = .ok (.iload_n 3, 1) := by decide +kernel
theorem dX6_power_115 : decode cX6_power 115 = .ok (.ireturn, 1) := by decide +kernel
theorem dX6_feed_0 : decode cX6_feed 0 = .ok (.iload_n 2, 1) := by decide +kernel
theorem dX6_feed_1 : decode cX6_feed 1 = .ok (.i2l, 1) := by decide +kernel
theorem dX6_feed_2 : decode cX6_feed 2 = .ok (.lconst 1, 1) := by decide +kernel
theorem dX6_feed_3 : decode cX6_feed 3 = .ok (.ldc2_w 67, 3) := by decide +kernel
theorem dX6_feed_6 : decode cX6_feed 6 = .ok (.invokestatic 42, 3) := by decide +kernel
theorem dX6_feed_9 : decode cX6_feed 9 = .ok (.ifCond .ne 10, 3) := by decide +kernel
theorem dX6_feed_12 : decode cX6_feed 12 = .ok (.aload_n 0, 1) := by decide +kernel
theorem dX6_feed_13 : decode cX6_feed 13 = .ok (.ldc 41, 2) := by decide +kernel
theorem dX6_feed_15 : decode cX6_feed 15 = .ok (.invokevirtual 59, 3) := by decide +kernel
theorem dX6_feed_18 : decode cX6_feed 18 = .ok (.ireturn, 1) := by decide +kernel
theorem dX6_feed_19 : decode cX6_feed 19 = .ok (.aload_n 0, 1) := by decide +kernel
theorem dX6_feed_20 : decode cX6_feed 20 = .ok (.getfield 182, 3) := by decide +kernel
theorem dX6_feed_23 : decode cX6_feed 23 = .ok (.iload_n 2, 1) := by decide +kernel
theorem dX6_feed_24 : decode cX6_feed 24 = .ok (.iadd, 1) := by decide +kernel
theorem dX6_feed_25 : decode cX6_feed 25 = .ok (.bipush 120, 2) := by decide +kernel
theorem dX6_feed_27 : decode cX6_feed 27 = .ok (.if_icmp .le 10, 3) := by decide +kernel
theorem dX6_feed_30 : decode cX6_feed 30 = .ok (.aload_n 0, 1) := by decide +kernel
theorem dX6_feed_31 : decode cX6_feed 31 = .ok (.ldc 63, 2) := by decide +kernel
theorem dX6_feed_33 : decode cX6_feed 33 = .ok (.invokevirtual 59, 3) := by decide +kernel
theorem dX6_feed_36 : decode cX6_feed 36 = .ok (.ireturn, 1) := by decide +kernel
theorem dX6_feed_37 : decode cX6_feed 37 = .ok (.iload_n 2, 1) := by decide +kernel
theorem dX6_feed_38 : decode cX6_feed 38 = .ok (.iconst 1, 1) := by decide +kernel
theorem dX6_feed_39 : decode cX6_feed 39 = .ok (.isub, 1) := by decide +kernel
theorem dX6_feed_40 : decode cX6_feed 40 = .ok (.istore_n 3, 1) := by decide +kernel
theorem dX6_feed_41 : decode cX6_feed 41 = .ok (.iload_n 3, 1) := by decide +kernel
theorem dX6_feed_42 : decode cX6_feed 42 = .ok (.ifCond .lt 38, 3) := by decide +kernel
theorem dX6_feed_45 : decode cX6_feed 45 = .ok (.aload_n 0, 1) := by decide +kernel
theorem dX6_feed_46 : decode cX6_feed 46 = .ok (.getfield 25, 3) := by decide +kernel
theorem dX6_feed_49 : decode cX6_feed 49 = .ok (.aload_n 0, 1) := by decide +kernel
theorem dX6_feed_50 : decode cX6_feed 50 = .ok (.getfield 182, 3) := by decide +kernel
theorem dX6_feed_53 : decode cX6_feed 53 = .ok (.iload_n 1, 1) := by decide +kernel
theorem dX6_feed_54 : decode cX6_feed 54 = .ok (.bipush 8, 2) := by decide +kernel
theorem dX6_feed_56 : decode cX6_feed 56 = .ok (.iload_n 3, 1) := by decide +kernel
theorem dX6_feed_57 : decode cX6_feed 57 = .ok (.imul, 1) := by decide +kernel
theorem dX6_feed_58 : decode cX6_feed 58 = .ok (.ishr, 1) := by decide +kernel
theorem dX6_feed_59 : decode cX6_feed 59 = .ok (.sipush 255, 3) := by decide +kernel
theorem dX6_feed_62 : decode cX6_feed 62 = .ok (.iand, 1) := by decide +kernel
theorem dX6_feed_63 : decode cX6_feed 63 = .ok (.iastore, 1) := by decide +kernel
theorem dX6_feed_64 : decode cX6_feed 64 = .ok (.aload_n 0, 1) := by decide +kernel
theorem dX6_feed_65 : decode cX6_feed 65 = .ok (.dup, 1) := by decide +kernel
theorem dX6_feed_66 : decode cX6_feed 66 = .ok (.getfield 182, 3) := by decide +kernel
theorem dX6_feed_69 : decode cX6_feed 69 = .ok (.iconst 1, 1) := by decide +kernel
theorem dX6_feed_70 : decode cX6_feed 70 = .ok (.iadd, 1) := by decide +kernel
theorem dX6_feed_71 : decode cX6_feed 71 = .ok (.putfield 182, 3) := by decide +kernel
theorem dX6_feed_74 : decode cX6_feed 74 = .ok (.iinc 3 (-1), 3) := by decide +kernel
theorem dX6_feed_77 : decode cX6_feed 77 = .ok (.goto (-36), 3) := by decide +kernel
theorem dX6_feed_80 : decode cX6_feed 80 = .ok (.aload_n 0, 1) := by decide +kernel
theorem dX6_feed_81 : decode cX6_feed 81 = .ok (.getfield 182, 3) := by decide +kernel
theorem dX6_feed_84 : decode cX6_feed 84 = .ok (.ireturn, 1) := by decide +kernel
theorem dX6_wipe_0 : decode cX6_wipe 0 = .ok (.aload_n 0, 1) := by decide +kernel
theorem dX6_wipe_1 : decode cX6_wipe 1 = .ok (.getfield 182, 3) := by decide +kernel
theorem dX6_wipe_4 : decode cX6_wipe 4 = .ok (.istore_n 1, 1) := by decide +kernel
theorem dX6_wipe_5 : decode cX6_wipe 5 = .ok (.aload_n 0, 1) := by decide +kernel
theorem dX6_wipe_6 : decode cX6_wipe 6 = .ok (.iconst 0, 1) := by decide +kernel
theorem dX6_wipe_7 : decode cX6_wipe 7 = .ok (.putfield 182, 3) := by decide +kernel
theorem dX6_wipe_10 : decode cX6_wipe 10 = .ok (.iload_n 1, 1) := by decide +kernel
theorem dX6_wipe_11 : decode cX6_wipe 11 = .ok (.ireturn, 1) := by decide +kernel
theorem dX6_byteAt_0 : decode cX6_byteAt 0 = .ok (.iload_n 1, 1) := by decide +kernel
theorem dX6_byteAt_1 : decode cX6_byteAt 1 = .ok (.aload_n 0, 1) := by decide +kernel
theorem dX6_byteAt_2 : decode cX6_byteAt 2 = .ok (.getfield 182, 3) := by decide +kernel
theorem dX6_byteAt_5 : decode cX6_byteAt 5 = .ok (.if_icmp .ge 12, 3) := by decide +kernel
theorem dX6_byteAt_8 : decode cX6_byteAt 8 = .ok (.aload_n 0, 1) := by decide +kernel
theorem dX6_byteAt_9 : decode cX6_byteAt 9 = .ok (.getfield 25, 3) := by decide +kernel
theorem dX6_byteAt_12 : decode cX6_byteAt 12 = .ok (.iload_n 1, 1) := by decide +kernel
theorem dX6_byteAt_13 : decode cX6_byteAt 13 = .ok (.iaload, 1) := by decide +kernel
theorem dX6_byteAt_14 : decode cX6_byteAt 14 = .ok (.goto 4, 3) := by decide +kernel
theorem dX6_byteAt_17 : decode cX6_byteAt 17 = .ok (.iconst (-1), 1) := by decide +kernel
theorem dX6_byteAt_18 : decode cX6_byteAt 18 = .ok (.ireturn, 1) := by decide +kernel
theorem dX6_isLetter_0 : decode cX6_isLetter 0 = .ok (.iload_n 0, 1) := by decide +kernel
theorem dX6_isLetter_1 : decode cX6_isLetter 1 = .ok (.i2l, 1) := by decide +kernel
theorem dX6_isLetter_2 : decode cX6_isLetter 2 = .ok (.ldc2_w 186, 3) := by decide +kernel
theorem dX6_isLetter_5 : decode cX6_isLetter 5 = .ok (.ldc2_w 188, 3) := by decide +kernel
theorem dX6_isLetter_8 : decode cX6_isLetter 8 = .ok (.invokestatic 42, 3) := by decide +kernel
theorem dX6_isLetter_11 : decode cX6_isLetter 11 = .ok (.ireturn, 1) := by decide +kernel
theorem dX6_isDigit_0 : decode cX6_isDigit 0 = .ok (.iload_n 0, 1) := by decide +kernel
theorem dX6_isDigit_1 : decode cX6_isDigit 1 = .ok (.i2l, 1) := by decide +kernel
theorem dX6_isDigit_2 : decode cX6_isDigit 2 = .ok (.ldc2_w 190, 3) := by decide +kernel
theorem dX6_isDigit_5 : decode cX6_isDigit 5 = .ok (.ldc2_w 192, 3) := by decide +kernel
theorem dX6_isDigit_8 : decode cX6_isDigit 8 = .ok (.invokestatic 42, 3) := by decide +kernel
theorem dX6_isDigit_11 : decode cX6_isDigit 11 = .ok (.ireturn, 1) := by decide +kernel
theorem dX6_token_0 : decode cX6_token 0 = .ok (.aload_n 0, 1) := by decide +kernel
theorem dX6_token_1 : decode cX6_token 1 = .ok (.aload_n 0, 1) := by decide +kernel
theorem dX6_token_2 : decode cX6_token 2 = .ok (.getfield 194, 3) := by decide +kernel
theorem dX6_token_5 : decode cX6_token 5 = .ok (.putfield 197, 3) := by decide +kernel
theorem dX6_token_8 : decode cX6_token 8 = .ok (.aload_n 0, 1) := by decide +kernel
theorem dX6_token_9 : decode cX6_token 9 = .ok (.aload_n 0, 1) := by decide +kernel
theorem dX6_token_10 : decode cX6_token 10 = .ok (.getfield 197, 3) := by decide +kernel
theorem dX6_token_13 : decode cX6_token 13 = .ok (.invokevirtual 200, 3) := by decide +kernel
theorem dX6_token_16 : decode cX6_token 16 = .ok (.bipush 32, 2) := by decide +kernel
theorem dX6_token_18 : decode cX6_token 18 = .ok (.if_icmp .ne 16, 3) := by decide +kernel
theorem dX6_token_21 : decode cX6_token 21 = .ok (.aload_n 0, 1) := by decide +kernel
theorem dX6_token_22 : decode cX6_token 22 = .ok (.dup, 1) := by decide +kernel
theorem dX6_token_23 : decode cX6_token 23 = .ok (.getfield 197, 3) := by decide +kernel
theorem dX6_token_26 : decode cX6_token 26 = .ok (.iconst 1, 1) := by decide +kernel
theorem dX6_token_27 : decode cX6_token 27 = .ok (.iadd, 1) := by decide +kernel
theorem dX6_token_28 : decode cX6_token 28 = .ok (.putfield 197, 3) := by decide +kernel
theorem dX6_token_31 : decode cX6_token 31 = .ok (.goto (-23), 3) := by decide +kernel
theorem dX6_token_34 : decode cX6_token 34 = .ok (.aload_n 0, 1) := by decide +kernel
theorem dX6_token_35 : decode cX6_token 35 = .ok (.aload_n 0, 1) := by decide +kernel
theorem dX6_token_36 : decode cX6_token 36 = .ok (.getfield 197, 3) := by decide +kernel
theorem dX6_token_39 : decode cX6_token 39 = .ok (.invokevirtual 200, 3) := by decide +kernel
theorem dX6_token_42 : decode cX6_token 42 = .ok (.invokestatic 203, 3) := by decide +kernel
theorem dX6_token_45 : decode cX6_token 45 = .ok (.istore_n 1, 1) := by decide +kernel
theorem dX6_token_46 : decode cX6_token 46 = .ok (.aload_n 0, 1) := by decide +kernel
theorem dX6_token_47 : decode cX6_token 47 = .ok (.aload_n 0, 1) := by decide +kernel
theorem dX6_token_48 : decode cX6_token 48 = .ok (.getfield 197, 3) := by decide +kernel
theorem dX6_token_51 : decode cX6_token 51 = .ok (.invokevirtual 200, 3) := by decide +kernel
theorem dX6_token_54 : decode cX6_token 54 = .ok (.invokestatic 206, 3) := by decide +kernel
theorem dX6_token_57 : decode cX6_token 57 = .ok (.istore_n 2, 1) := by decide +kernel
theorem dX6_token_58 : decode cX6_token 58 = .ok (.aload_n 0, 1) := by decide +kernel
theorem dX6_token_59 : decode cX6_token 59 = .ok (.aload_n 0, 1) := by decide +kernel
theorem dX6_token_60 : decode cX6_token 60 = .ok (.getfield 197, 3) := by decide +kernel
theorem dX6_token_63 : decode cX6_token 63 = .ok (.aload_n 0, 1) := by decide +kernel
theorem dX6_token_64 : decode cX6_token 64 = .ok (.getfield 182, 3) := by decide +kernel
theorem dX6_token_67 : decode cX6_token 67 = .ok (.if_icmp .ge 12, 3) := by decide +kernel
theorem dX6_token_70 : decode cX6_token 70 = .ok (.aload_n 0, 1) := by decide +kernel
theorem dX6_token_71 : decode cX6_token 71 = .ok (.getfield 197, 3) := by decide +kernel
theorem dX6_token_74 : decode cX6_token 74 = .ok (.iconst 1, 1) := by decide +kernel
theorem dX6_token_75 : decode cX6_token 75 = .ok (.iadd, 1) := by decide +kernel
theorem dX6_token_76 : decode cX6_token 76 = .ok (.goto 7, 3) := by decide +kernel
theorem dX6_token_79 : decode cX6_token 79 = .ok (.aload_n 0, 1) := by decide +kernel
theorem dX6_token_80 : decode cX6_token 80 = .ok (.getfield 197, 3) := by decide +kernel
theorem dX6_token_83 : decode cX6_token 83 = .ok (.putfield 194, 3) := by decide +kernel
theorem dX6_token_86 : decode cX6_token 86 = .ok (.iload_n 1, 1) := by decide +kernel
theorem dX6_token_87 : decode cX6_token 87 = .ok (.ifCond .eq 17, 3) := by decide +kernel
theorem dX6_token_90 : decode cX6_token 90 = .ok (.aload_n 0, 1) := by decide +kernel
theorem dX6_token_91 : decode cX6_token 91 = .ok (.aload_n 0, 1) := by decide +kernel
theorem dX6_token_92 : decode cX6_token 92 = .ok (.getfield 194, 3) := by decide +kernel
theorem dX6_token_95 : decode cX6_token 95 = .ok (.invokevirtual 200, 3) := by decide +kernel
theorem dX6_token_98 : decode cX6_token 98 = .ok (.invokestatic 203, 3) := by decide +kernel
theorem dX6_token_101 : decode cX6_token 101 = .ok (.ifCond .ne 21, 3) := by decide +kernel
theorem dX6_token_104 : decode cX6_token 104 = .ok (.iload_n 2, 1) := by decide +kernel
theorem dX6_token_105 : decode cX6_token 105 = .ok (.ifCond .eq 30, 3) := by decide +kernel
theorem dX6_token_108 : decode cX6_token 108 = .ok (.aload_n 0, 1) := by decide +kernel
theorem dX6_token_109 : decode cX6_token 109 = .ok (.aload_n 0, 1) := by decide +kernel
theorem dX6_token_110 : decode cX6_token 110 = .ok (.getfield 194, 3) := by decide +kernel
theorem dX6_token_113 : decode cX6_token 113 = .ok (.invokevirtual 200, 3) := by decide +kernel
theorem dX6_token_116 : decode cX6_token 116 = .ok (.invokestatic 206, 3) := by decide +kernel
theorem dX6_token_119 : decode cX6_token 119 = .ok (.ifCond .eq 16, 3) := by decide +kernel
theorem dX6_token_122 : decode cX6_token 122 = .ok (.aload_n 0, 1) := by decide +kernel
theorem dX6_token_123 : decode cX6_token 123 = .ok (.dup, 1) := by decide +kernel
theorem dX6_token_124 : decode cX6_token 124 = .ok (.getfield 194, 3) := by decide +kernel
theorem dX6_token_127 : decode cX6_token 127 = .ok (.iconst 1, 1) := by decide +kernel
theorem dX6_token_128 : decode cX6_token 128 = .ok (.iadd, 1) := by decide +kernel
theorem dX6_token_129 : decode cX6_token 129 = .ok (.putfield 194, 3) := by decide +kernel
theorem dX6_token_132 : decode cX6_token 132 = .ok (.goto (-46), 3) := by decide +kernel
theorem dX6_token_135 : decode cX6_token 135 = .ok (.return_, 1) := by decide +kernel
theorem dX6_must_0 : decode cX6_must 0 = .ok (.aload_n 0, 1) := by decide +kernel
theorem dX6_must_1 : decode cX6_must 1 = .ok (.aload_n 0, 1) := by decide +kernel
theorem dX6_must_2 : decode cX6_must 2 = .ok (.getfield 209, 3) := by decide +kernel
theorem dX6_must_5 : decode cX6_must 5 = .ok (.ifCond .ne 7, 3) := by decide +kernel
theorem dX6_must_8 : decode cX6_must 8 = .ok (.iload_n 1, 1) := by decide +kernel
theorem dX6_must_9 : decode cX6_must 9 = .ok (.ifCond .ne 7, 3) := by decide +kernel
theorem dX6_must_12 : decode cX6_must 12 = .ok (.iconst 1, 1) := by decide +kernel
theorem dX6_must_13 : decode cX6_must 13 = .ok (.goto 4, 3) := by decide +kernel
theorem dX6_must_16 : decode cX6_must 16 = .ok (.iconst 0, 1) := by decide +kernel
theorem dX6_must_17 : decode cX6_must 17 = .ok (.putfield 209, 3) := by decide +kernel
theorem dX6_must_20 : decode cX6_must 20 = .ok (.aload_n 0, 1) := by decide +kernel
theorem dX6_must_21 : decode cX6_must 21 = .ok (.getfield 209, 3) := by decide +kernel
theorem dX6_must_24 : decode cX6_must 24 = .ok (.ifCond .ne 7, 3) := by decide +kernel
theorem dX6_must_27 : decode cX6_must 27 = .ok (.aload_n 0, 1) := by decide +kernel
theorem dX6_must_28 : decode cX6_must 28 = .ok (.invokevirtual 213, 3) := by decide +kernel
theorem dX6_must_31 : decode cX6_must 31 = .ok (.return_, 1) := by decide +kernel
theorem dX6_word_0 : decode cX6_word 0 = .ok (.lconst 0, 1) := by decide +kernel
theorem dX6_word_1 : decode cX6_word 1 = .ok (.lstore_n 1, 1) := by decide +kernel
theorem dX6_word_2 : decode cX6_word 2 = .ok (.aload_n 0, 1) := by decide +kernel
theorem dX6_word_3 : decode cX6_word 3 = .ok (.getfield 197, 3) := by decide +kernel
theorem dX6_word_6 : decode cX6_word 6 = .ok (.istore_n 3, 1) := by decide +kernel
theorem dX6_word_7 : decode cX6_word 7 = .ok (.iload_n 3, 1) := by decide +kernel
theorem dX6_word_8 : decode cX6_word 8 = .ok (.aload_n 0, 1) := by decide +kernel
theorem dX6_word_9 : decode cX6_word 9 = .ok (.getfield 194, 3) := by decide +kernel
theorem dX6_word_12 : decode cX6_word 12 = .ok (.if_icmp .ge 38, 3) := by decide +kernel
theorem dX6_word_15 : decode cX6_word 15 = .ok (.lload_n 1, 1) := by decide +kernel
theorem dX6_word_16 : decode cX6_word 16 = .ok (.ldc2_w 216, 3) := by decide +kernel
theorem dX6_word_19 : decode cX6_word 19 = .ok (.lcmp, 1) := by decide +kernel
theorem dX6_word_20 : decode cX6_word 20 = .ok (.ifCond .le 7, 3) := by decide +kernel
theorem dX6_word_23 : decode cX6_word 23 = .ok (.lload_n 1, 1) := by decide +kernel
theorem dX6_word_24 : decode cX6_word 24 = .ok (.goto 19, 3) := by decide +kernel
theorem dX6_word_27 : decode cX6_word 27 = .ok (.ldc2_w 218, 3) := by decide +kernel
theorem dX6_word_30 : decode cX6_word 30 = .ok (.lload_n 1, 1) := by decide +kernel
theorem dX6_word_31 : decode cX6_word 31 = .ok (.lmul, 1) := by decide +kernel
theorem dX6_word_32 : decode cX6_word 32 = .ok (.aload_n 0, 1) := by decide +kernel
theorem dX6_word_33 : decode cX6_word 33 = .ok (.getfield 25, 3) := by decide +kernel
theorem dX6_word_36 : decode cX6_word 36 = .ok (.iload_n 3, 1) := by decide +kernel
theorem dX6_word_37 : decode cX6_word 37 = .ok (.iaload, 1) := by decide +kernel
theorem dX6_word_38 : decode cX6_word 38 = .ok (.bipush 96, 2) := by decide +kernel
theorem dX6_word_40 : decode cX6_word 40 = .ok (.isub, 1) := by decide +kernel
theorem dX6_word_41 : decode cX6_word 41 = .ok (.i2l, 1) := by decide +kernel
theorem dX6_word_42 : decode cX6_word 42 = .ok (.ladd, 1) := by decide +kernel
theorem dX6_word_43 : decode cX6_word 43 = .ok (.lstore_n 1, 1) := by decide +kernel
theorem dX6_word_44 : decode cX6_word 44 = .ok (.iinc 3 1, 3) := by decide +kernel
theorem dX6_word_47 : decode cX6_word 47 = .ok (.goto (-40), 3) := by decide +kernel
theorem dX6_word_50 : decode cX6_word 50 = .ok (.aload_n 0, 1) := by decide +kernel
theorem dX6_word_51 : decode cX6_word 51 = .ok (.getfield 209, 3) := by decide +kernel
theorem dX6_word_54 : decode cX6_word 54 = .ok (.ifCond .ne 17, 3) := by decide +kernel
theorem dX6_word_57 : decode cX6_word 57 = .ok (.aload_n 0, 1) := by decide +kernel
theorem dX6_word_58 : decode cX6_word 58 = .ok (.aload_n 0, 1) := by decide +kernel
theorem dX6_word_59 : decode cX6_word 59 = .ok (.getfield 197, 3) := by decide +kernel
theorem dX6_word_62 : decode cX6_word 62 = .ok (.invokevirtual 200, 3) := by decide +kernel
theorem dX6_word_65 : decode cX6_word 65 = .ok (.invokestatic 203, 3) := by decide +kernel
theorem dX6_word_68 : decode cX6_word 68 = .ok (.ifCond .ne 7, 3) := by decide +kernel
theorem dX6_word_71 : decode cX6_word 71 = .ok (.lconst 0, 1) := by decide +kernel
theorem dX6_word_72 : decode cX6_word 72 = .ok (.goto 4, 3) := by decide +kernel
theorem dX6_word_75 : decode cX6_word 75 = .ok (.lload_n 1, 1) := by decide +kernel
theorem dX6_word_76 : decode cX6_word 76 = .ok (.lreturn, 1) := by decide +kernel
theorem dX6_number_0 : decode cX6_number 0 = .ok (.aload_n 0, 1) := by decide +kernel
theorem dX6_number_1 : decode cX6_number 1 = .ok (.getfield 209, 3) := by decide +kernel
theorem dX6_number_4 : decode cX6_number 4 = .ok (.ifCond .eq 4, 3) := by decide +kernel
theorem dX6_number_7 : decode cX6_number 7 = .ok (.return_, 1) := by decide +kernel
theorem dX6_number_8 : decode cX6_number 8 = .ok (.aload_n 0, 1) := by decide +kernel
theorem dX6_number_9 : decode cX6_number 9 = .ok (.aload_n 0, 1) := by decide +kernel
theorem dX6_number_10 : decode cX6_number 10 = .ok (.getfield 197, 3) := by decide +kernel
theorem dX6_number_13 : decode cX6_number 13 = .ok (.invokevirtual 200, 3) := by decide +kernel
theorem dX6_number_16 : decode cX6_number 16 = .ok (.invokestatic 206, 3) := by decide +kernel
theorem dX6_number_19 : decode cX6_number 19 = .ok (.istore_n 3, 1) := by decide +kernel
theorem dX6_number_20 : decode cX6_number 20 = .ok (.iconst 0, 1) := by decide +kernel
theorem dX6_number_21 : decode cX6_number 21 = .ok (.istore 4, 2) := by decide +kernel
theorem dX6_number_23 : decode cX6_number 23 = .ok (.aload_n 0, 1) := by decide +kernel
theorem dX6_number_24 : decode cX6_number 24 = .ok (.getfield 197, 3) := by decide +kernel
theorem dX6_number_27 : decode cX6_number 27 = .ok (.istore 5, 2) := by decide +kernel
theorem dX6_number_29 : decode cX6_number 29 = .ok (.iload 5, 2) := by decide +kernel
theorem dX6_number_31 : decode cX6_number 31 = .ok (.aload_n 0, 1) := by decide +kernel
theorem dX6_number_32 : decode cX6_number 32 = .ok (.getfield 194, 3) := by decide +kernel
theorem dX6_number_35 : decode cX6_number 35 = .ok (.if_icmp .ge 44, 3) := by decide +kernel
theorem dX6_number_38 : decode cX6_number 38 = .ok (.iload_n 3, 1) := by decide +kernel
theorem dX6_number_39 : decode cX6_number 39 = .ok (.ifCond .eq 40, 3) := by decide +kernel
theorem dX6_number_42 : decode cX6_number 42 = .ok (.iload 4, 2) := by decide +kernel
theorem dX6_number_44 : decode cX6_number 44 = .ok (.sipush 9999, 3) := by decide +kernel
theorem dX6_number_47 : decode cX6_number 47 = .ok (.if_icmp .le 8, 3) := by decide +kernel
theorem dX6_number_50 : decode cX6_number 50 = .ok (.iload 4, 2) := by decide +kernel
theorem dX6_number_52 : decode cX6_number 52 = .ok (.goto 19, 3) := by decide +kernel
theorem dX6_number_55 : decode cX6_number 55 = .ok (.bipush 10, 2) := by decide +kernel
theorem dX6_number_57 : decode cX6_number 57 = .ok (.iload 4, 2) := by decide +kernel
theorem dX6_number_59 : decode cX6_number 59 = .ok (.imul, 1) := by decide +kernel
theorem dX6_number_60 : decode cX6_number 60 = .ok (.aload_n 0, 1) := by decide +kernel
theorem dX6_number_61 : decode cX6_number 61 = .ok (.getfield 25, 3) := by decide +kernel
theorem dX6_number_64 : decode cX6_number 64 = .ok (.iload 5, 2) := by decide +kernel
theorem dX6_number_66 : decode cX6_number 66 = .ok (.iaload, 1) := by decide +kernel
theorem dX6_number_67 : decode cX6_number 67 = .ok (.iadd, 1) := by decide +kernel
theorem dX6_number_68 : decode cX6_number 68 = .ok (.bipush 48, 2) := by decide +kernel
theorem dX6_number_70 : decode cX6_number 70 = .ok (.isub, 1) := by decide +kernel
theorem dX6_number_71 : decode cX6_number 71 = .ok (.istore 4, 2) := by decide +kernel
theorem dX6_number_73 : decode cX6_number 73 = .ok (.iinc 5 1, 3) := by decide +kernel
theorem dX6_number_76 : decode cX6_number 76 = .ok (.goto (-47), 3) := by decide +kernel
theorem dX6_number_79 : decode cX6_number 79 = .ok (.aload_n 0, 1) := by decide +kernel
theorem dX6_number_80 : decode cX6_number 80 = .ok (.iload 4, 2) := by decide +kernel
theorem dX6_number_82 : decode cX6_number 82 = .ok (.putfield 220, 3) := by decide +kernel
theorem dX6_number_85 : decode cX6_number 85 = .ok (.aload_n 0, 1) := by decide +kernel
theorem dX6_number_86 : decode cX6_number 86 = .ok (.iload_n 3, 1) := by decide +kernel
theorem dX6_number_87 : decode cX6_number 87 = .ok (.ifCond .eq 20, 3) := by decide +kernel
theorem dX6_number_90 : decode cX6_number 90 = .ok (.iload 4, 2) := by decide +kernel
theorem dX6_number_92 : decode cX6_number 92 = .ok (.i2l, 1) := by decide +kernel
theorem dX6_number_93 : decode cX6_number 93 = .ok (.iload_n 1, 1) := by decide +kernel
theorem dX6_number_94 : decode cX6_number 94 = .ok (.i2l, 1) := by decide +kernel
theorem dX6_number_95 : decode cX6_number 95 = .ok (.iload_n 2, 1) := by decide +kernel
theorem dX6_number_96 : decode cX6_number 96 = .ok (.i2l, 1) := by decide +kernel
theorem dX6_number_97 : decode cX6_number 97 = .ok (.invokestatic 42, 3) := by decide +kernel
theorem dX6_number_100 : decode cX6_number 100 = .ok (.ifCond .eq 7, 3) := by decide +kernel
theorem dX6_number_103 : decode cX6_number 103 = .ok (.iconst 1, 1) := by decide +kernel
theorem dX6_number_104 : decode cX6_number 104 = .ok (.goto 4, 3) := by decide +kernel
theorem dX6_number_107 : decode cX6_number 107 = .ok (.iconst 0, 1) := by decide +kernel
theorem dX6_number_108 : decode cX6_number 108 = .ok (.invokevirtual 223, 3) := by decide +kernel
theorem dX6_number_111 : decode cX6_number 111 = .ok (.return_, 1) := by decide +kernel
theorem dX6_kindHere_0 : decode cX6_kindHere 0 = .ok (.aload_n 0, 1) := by decide +kernel
theorem dX6_kindHere_1 : decode cX6_kindHere 1 = .ok (.invokevirtual 227, 3) := by decide +kernel
theorem dX6_kindHere_4 : decode cX6_kindHere 4 = .ok (.lstore_n 1, 1) := by decide +kernel
theorem dX6_kindHere_5 : decode cX6_kindHere 5 = .ok (.lload_n 1, 1) := by decide +kernel
theorem dX6_kindHere_6 : decode cX6_kindHere 6 = .ok (.ldc2_w 231, 3) := by decide +kernel
theorem dX6_kindHere_9 : decode cX6_kindHere 9 = .ok (.lcmp, 1) := by decide +kernel
theorem dX6_kindHere_10 : decode cX6_kindHere 10 = .ok (.ifCond .ne 7, 3) := by decide +kernel
theorem dX6_kindHere_13 : decode cX6_kindHere 13 = .ok (.iconst 0, 1) := by decide +kernel
theorem dX6_kindHere_14 : decode cX6_kindHere 14 = .ok (.goto 64, 3) := by decide +kernel
theorem dX6_kindHere_17 : decode cX6_kindHere 17 = .ok (.lload_n 1, 1) := by decide +kernel
theorem dX6_kindHere_18 : decode cX6_kindHere 18 = .ok (.ldc2_w 233, 3) := by decide +kernel
theorem dX6_kindHere_21 : decode cX6_kindHere 21 = .ok (.lcmp, 1) := by decide +kernel
theorem dX6_kindHere_22 : decode cX6_kindHere 22 = .ok (.ifCond .ne 7, 3) := by decide +kernel
theorem dX6_kindHere_25 : decode cX6_kindHere 25 = .ok (.iconst 1, 1) := by decide +kernel
theorem dX6_kindHere_26 : decode cX6_kindHere 26 = .ok (.goto 52, 3) := by decide +kernel
theorem dX6_kindHere_29 : decode cX6_kindHere 29 = .ok (.lload_n 1, 1) := by decide +kernel
theorem dX6_kindHere_30 : decode cX6_kindHere 30 = .ok (.ldc2_w 235, 3) := by decide +kernel
theorem dX6_kindHere_33 : decode cX6_kindHere 33 = .ok (.lcmp, 1) := by decide +kernel
theorem dX6_kindHere_34 : decode cX6_kindHere 34 = .ok (.ifCond .ne 7, 3) := by decide +kernel
theorem dX6_kindHere_37 : decode cX6_kindHere 37 = .ok (.iconst 2, 1) := by decide +kernel
theorem dX6_kindHere_38 : decode cX6_kindHere 38 = .ok (.goto 40, 3) := by decide +kernel
theorem dX6_kindHere_41 : decode cX6_kindHere 41 = .ok (.lload_n 1, 1) := by decide +kernel
theorem dX6_kindHere_42 : decode cX6_kindHere 42 = .ok (.ldc2_w 237, 3) := by decide +kernel
theorem dX6_kindHere_45 : decode cX6_kindHere 45 = .ok (.lcmp, 1) := by decide +kernel
theorem dX6_kindHere_46 : decode cX6_kindHere 46 = .ok (.ifCond .ne 7, 3) := by decide +kernel
theorem dX6_kindHere_49 : decode cX6_kindHere 49 = .ok (.iconst 3, 1) := by decide +kernel
theorem dX6_kindHere_50 : decode cX6_kindHere 50 = .ok (.goto 28, 3) := by decide +kernel
theorem dX6_kindHere_53 : decode cX6_kindHere 53 = .ok (.lload_n 1, 1) := by decide +kernel
theorem dX6_kindHere_54 : decode cX6_kindHere 54 = .ok (.ldc2_w 239, 3) := by decide +kernel
theorem dX6_kindHere_57 : decode cX6_kindHere 57 = .ok (.lcmp, 1) := by decide +kernel
theorem dX6_kindHere_58 : decode cX6_kindHere 58 = .ok (.ifCond .ne 7, 3) := by decide +kernel
theorem dX6_kindHere_61 : decode cX6_kindHere 61 = .ok (.iconst 4, 1) := by decide +kernel
theorem dX6_kindHere_62 : decode cX6_kindHere 62 = .ok (.goto 16, 3) := by decide +kernel
theorem dX6_kindHere_65 : decode cX6_kindHere 65 = .ok (.lload_n 1, 1) := by decide +kernel
theorem dX6_kindHere_66 : decode cX6_kindHere 66 = .ok (.ldc2_w 241, 3) := by decide +kernel
theorem dX6_kindHere_69 : decode cX6_kindHere 69 = .ok (.lcmp, 1) := by decide +kernel
theorem dX6_kindHere_70 : decode cX6_kindHere 70 = .ok (.ifCond .ne 7, 3) := by decide +kernel
theorem dX6_kindHere_73 : decode cX6_kindHere 73 = .ok (.iconst 5, 1) := by decide +kernel
theorem dX6_kindHere_74 : decode cX6_kindHere 74 = .ok (.goto 4, 3) := by decide +kernel
theorem dX6_kindHere_77 : decode cX6_kindHere 77 = .ok (.iconst (-1), 1) := by decide +kernel
theorem dX6_kindHere_78 : decode cX6_kindHere 78 = .ok (.ireturn, 1) := by decide +kernel
theorem dX6_partItem_0 : decode cX6_partItem 0 = .ok (.aload_n 0, 1) := by decide +kernel
theorem dX6_partItem_1 : decode cX6_partItem 1 = .ok (.invokevirtual 227, 3) := by decide +kernel
theorem dX6_partItem_4 : decode cX6_partItem 4 = .ok (.lload_n 1, 1) := by decide +kernel
theorem dX6_partItem_5 : decode cX6_partItem 5 = .ok (.lcmp, 1) := by decide +kernel
theorem dX6_partItem_6 : decode cX6_partItem 6 = .ok (.ifCond .ne 61, 3) := by decide +kernel
theorem dX6_partItem_9 : decode cX6_partItem 9 = .ok (.aload_n 0, 1) := by decide +kernel
theorem dX6_partItem_10 : decode cX6_partItem 10 = .ok (.iconst 1, 1) := by decide +kernel
theorem dX6_partItem_11 : decode cX6_partItem 11 = .ok (.invokevirtual 223, 3) := by decide +kernel
theorem dX6_partItem_14 : decode cX6_partItem 14 = .ok (.aload_n 0, 1) := by decide +kernel
theorem dX6_partItem_15 : decode cX6_partItem 15 = .ok (.iload 4, 2) := by decide +kernel
theorem dX6_partItem_17 : decode cX6_partItem 17 = .ok (.iload 5, 2) := by decide +kernel
theorem dX6_partItem_19 : decode cX6_partItem 19 = .ok (.invokevirtual 243, 3) := by decide +kernel
theorem dX6_partItem_22 : decode cX6_partItem 22 = .ok (.bipush 7, 2) := by decide +kernel
theorem dX6_partItem_24 : decode cX6_partItem 24 = .ok (.iconst 5, 1) := by decide +kernel
theorem dX6_partItem_25 : decode cX6_partItem 25 = .ok (.aload_n 0, 1) := by decide +kernel
theorem dX6_partItem_26 : decode cX6_partItem 26 = .ok (.getfield 7, 3) := by decide +kernel
theorem dX6_partItem_29 : decode cX6_partItem 29 = .ok (.iconst 0, 1) := by decide +kernel
theorem dX6_partItem_30 : decode cX6_partItem 30 = .ok (.iaload, 1) := by decide +kernel
theorem dX6_partItem_31 : decode cX6_partItem 31 = .ok (.iconst 1, 1) := by decide +kernel
theorem dX6_partItem_32 : decode cX6_partItem 32 = .ok (.isub, 1) := by decide +kernel
theorem dX6_partItem_33 : decode cX6_partItem 33 = .ok (.imul, 1) := by decide +kernel
theorem dX6_partItem_34 : decode cX6_partItem 34 = .ok (.iadd, 1) := by decide +kernel
theorem dX6_partItem_35 : decode cX6_partItem 35 = .ok (.iload_n 3, 1) := by decide +kernel
theorem dX6_partItem_36 : decode cX6_partItem 36 = .ok (.iadd, 1) := by decide +kernel
theorem dX6_partItem_37 : decode cX6_partItem 37 = .ok (.istore 6, 2) := by decide +kernel
theorem dX6_partItem_39 : decode cX6_partItem 39 = .ok (.aload_n 0, 1) := by decide +kernel
theorem dX6_partItem_40 : decode cX6_partItem 40 = .ok (.getfield 7, 3) := by decide +kernel
theorem dX6_partItem_43 : decode cX6_partItem 43 = .ok (.iload 6, 2) := by decide +kernel
theorem dX6_partItem_45 : decode cX6_partItem 45 = .ok (.aload_n 0, 1) := by decide +kernel
theorem dX6_partItem_46 : decode cX6_partItem 46 = .ok (.getfield 209, 3) := by decide +kernel
theorem dX6_partItem_49 : decode cX6_partItem 49 = .ok (.ifCond .eq 13, 3) := by decide +kernel
theorem dX6_partItem_52 : decode cX6_partItem 52 = .ok (.aload_n 0, 1) := by decide +kernel
theorem dX6_partItem_53 : decode cX6_partItem 53 = .ok (.getfield 7, 3) := by decide +kernel
theorem dX6_partItem_56 : decode cX6_partItem 56 = .ok (.iload 6, 2) := by decide +kernel
theorem dX6_partItem_58 : decode cX6_partItem 58 = .ok (.iaload, 1) := by decide +kernel
theorem dX6_partItem_59 : decode cX6_partItem 59 = .ok (.goto 7, 3) := by decide +kernel
theorem dX6_partItem_62 : decode cX6_partItem 62 = .ok (.aload_n 0, 1) := by decide +kernel
theorem dX6_partItem_63 : decode cX6_partItem 63 = .ok (.getfield 220, 3) := by decide +kernel
theorem dX6_partItem_66 : decode cX6_partItem 66 = .ok (.iastore, 1) := by decide +kernel
theorem dX6_partItem_67 : decode cX6_partItem 67 = .ok (.return_, 1) := by decide +kernel
theorem dX6_calendarItem_0 : decode cX6_calendarItem 0 = .ok (.aload_n 0, 1) := by decide +kernel
theorem dX6_calendarItem_1 : decode cX6_calendarItem 1 = .ok (.aload_n 0, 1) := by decide +kernel
theorem dX6_calendarItem_2 : decode cX6_calendarItem 2 = .ok (.getfield 7, 3) := by decide +kernel
theorem dX6_calendarItem_5 : decode cX6_calendarItem 5 = .ok (.iconst 0, 1) := by decide +kernel
theorem dX6_calendarItem_6 : decode cX6_calendarItem 6 = .ok (.iaload, 1) := by decide +kernel
theorem dX6_calendarItem_7 : decode cX6_calendarItem 7 = .ok (.bipush 6, 2) := by decide +kernel
theorem dX6_calendarItem_9 : decode cX6_calendarItem 9 = .ok (.if_icmp .ge 7, 3) := by decide +kernel
theorem dX6_calendarItem_12 : decode cX6_calendarItem 12 = .ok (.iconst 1, 1) := by decide +kernel
theorem dX6_calendarItem_13 : decode cX6_calendarItem 13 = .ok (.goto 4, 3) := by decide +kernel
theorem dX6_calendarItem_16 : decode cX6_calendarItem 16 = .ok (.iconst 0, 1) := by decide +kernel
theorem dX6_calendarItem_17 : decode cX6_calendarItem 17 = .ok (.invokevirtual 223, 3) := by decide +kernel
theorem dX6_calendarItem_20 : decode cX6_calendarItem 20 = .ok (.aload_n 0, 1) := by decide +kernel
theorem dX6_calendarItem_21 : decode cX6_calendarItem 21 = .ok (.getfield 209, 3) := by decide +kernel
theorem dX6_calendarItem_24 : decode cX6_calendarItem 24 = .ok (.ifCond .eq 4, 3) := by decide +kernel
theorem dX6_calendarItem_27 : decode cX6_calendarItem 27 = .ok (.return_, 1) := by decide +kernel
theorem dX6_calendarItem_28 : decode cX6_calendarItem 28 = .ok (.aload_n 0, 1) := by decide +kernel
theorem dX6_calendarItem_29 : decode cX6_calendarItem 29 = .ok (.iload_n 1, 1) := by decide +kernel
theorem dX6_calendarItem_30 : decode cX6_calendarItem 30 = .ok (.invokevirtual 64, 3) := by decide +kernel
theorem dX6_calendarItem_33 : decode cX6_calendarItem 33 = .ok (.istore_n 2, 1) := by decide +kernel
theorem dX6_calendarItem_34 : decode cX6_calendarItem 34 = .ok (.aload_n 0, 1) := by decide +kernel
theorem dX6_calendarItem_35 : decode cX6_calendarItem 35 = .ok (.ldc2_w 247, 3) := by decide +kernel
theorem dX6_calendarItem_38 : decode cX6_calendarItem 38 = .ok (.iconst 1, 1) := by decide +kernel
theorem dX6_calendarItem_39 : decode cX6_calendarItem 39 = .ok (.iconst 0, 1) := by decide +kernel
theorem dX6_calendarItem_40 : decode cX6_calendarItem 40 = .ok (.bipush 99, 2) := by decide +kernel
theorem dX6_calendarItem_42 : decode cX6_calendarItem 42 = .ok (.invokevirtual 249, 3) := by decide +kernel
theorem dX6_calendarItem_45 : decode cX6_calendarItem 45 = .ok (.aload_n 0, 1) := by decide +kernel
theorem dX6_calendarItem_46 : decode cX6_calendarItem 46 = .ok (.ldc2_w 253, 3) := by decide +kernel
theorem dX6_calendarItem_49 : decode cX6_calendarItem 49 = .ok (.iconst 2, 1) := by decide +kernel
theorem dX6_calendarItem_50 : decode cX6_calendarItem 50 = .ok (.iconst 1, 1) := by decide +kernel
theorem dX6_calendarItem_51 : decode cX6_calendarItem 51 = .ok (.bipush 60, 2) := by decide +kernel
theorem dX6_calendarItem_53 : decode cX6_calendarItem 53 = .ok (.invokevirtual 249, 3) := by decide +kernel
theorem dX6_calendarItem_56 : decode cX6_calendarItem 56 = .ok (.aload_n 0, 1) := by decide +kernel
theorem dX6_calendarItem_57 : decode cX6_calendarItem 57 = .ok (.ldc2_w 255, 3) := by decide +kernel
theorem dX6_calendarItem_60 : decode cX6_calendarItem 60 = .ok (.iconst 3, 1) := by decide +kernel
theorem dX6_calendarItem_61 : decode cX6_calendarItem 61 = .ok (.iconst 0, 1) := by decide +kernel
theorem dX6_calendarItem_62 : decode cX6_calendarItem 62 = .ok (.bipush 99, 2) := by decide +kernel
theorem dX6_calendarItem_64 : decode cX6_calendarItem 64 = .ok (.invokevirtual 249, 3) := by decide +kernel
theorem dX6_calendarItem_67 : decode cX6_calendarItem 67 = .ok (.aload_n 0, 1) := by decide +kernel
theorem dX6_calendarItem_68 : decode cX6_calendarItem 68 = .ok (.ldc2_w 257, 3) := by decide +kernel
theorem dX6_calendarItem_71 : decode cX6_calendarItem 71 = .ok (.iconst 4, 1) := by decide +kernel
theorem dX6_calendarItem_72 : decode cX6_calendarItem 72 = .ok (.iconst 0, 1) := by decide +kernel
theorem dX6_calendarItem_73 : decode cX6_calendarItem 73 = .ok (.sipush 9999, 3) := by decide +kernel
theorem dX6_calendarItem_76 : decode cX6_calendarItem 76 = .ok (.invokevirtual 249, 3) := by decide +kernel
theorem dX6_calendarItem_79 : decode cX6_calendarItem 79 = .ok (.return_, 1) := by decide +kernel
theorem dX6_pilgrimItem_0 : decode cX6_pilgrimItem 0 = .ok (.aload_n 0, 1) := by decide +kernel
theorem dX6_pilgrimItem_1 : decode cX6_pilgrimItem 1 = .ok (.aload_n 0, 1) := by decide +kernel
theorem dX6_pilgrimItem_2 : decode cX6_pilgrimItem 2 = .ok (.getfield 7, 3) := by decide +kernel
theorem dX6_pilgrimItem_5 : decode cX6_pilgrimItem 5 = .ok (.iconst 1, 1) := by decide +kernel
theorem dX6_pilgrimItem_6 : decode cX6_pilgrimItem 6 = .ok (.iaload, 1) := by decide +kernel
theorem dX6_pilgrimItem_7 : decode cX6_pilgrimItem 7 = .ok (.bipush 8, 2) := by decide +kernel
theorem dX6_pilgrimItem_9 : decode cX6_pilgrimItem 9 = .ok (.if_icmp .ge 7, 3) := by decide +kernel
theorem dX6_pilgrimItem_12 : decode cX6_pilgrimItem 12 = .ok (.iconst 1, 1) := by decide +kernel
theorem dX6_pilgrimItem_13 : decode cX6_pilgrimItem 13 = .ok (.goto 4, 3) := by decide +kernel
theorem dX6_pilgrimItem_16 : decode cX6_pilgrimItem 16 = .ok (.iconst 0, 1) := by decide +kernel
theorem dX6_pilgrimItem_17 : decode cX6_pilgrimItem 17 = .ok (.invokevirtual 223, 3) := by decide +kernel
theorem dX6_pilgrimItem_20 : decode cX6_pilgrimItem 20 = .ok (.aload_n 0, 1) := by decide +kernel
theorem dX6_pilgrimItem_21 : decode cX6_pilgrimItem 21 = .ok (.iconst 0, 1) := by decide +kernel
theorem dX6_pilgrimItem_22 : decode cX6_pilgrimItem 22 = .ok (.bipush 99, 2) := by decide +kernel
theorem dX6_pilgrimItem_24 : decode cX6_pilgrimItem 24 = .ok (.invokevirtual 243, 3) := by decide +kernel
theorem dX6_pilgrimItem_27 : decode cX6_pilgrimItem 27 = .ok (.aload_n 0, 1) := by decide +kernel
theorem dX6_pilgrimItem_28 : decode cX6_pilgrimItem 28 = .ok (.getfield 220, 3) := by decide +kernel
theorem dX6_pilgrimItem_31 : decode cX6_pilgrimItem 31 = .ok (.istore_n 1, 1) := by decide +kernel
theorem dX6_pilgrimItem_32 : decode cX6_pilgrimItem 32 = .ok (.iconst (-1), 1) := by decide +kernel
theorem dX6_pilgrimItem_33 : decode cX6_pilgrimItem 33 = .ok (.istore_n 2, 1) := by decide +kernel
theorem dX6_pilgrimItem_34 : decode cX6_pilgrimItem 34 = .ok (.aload_n 0, 1) := by decide +kernel
theorem dX6_pilgrimItem_35 : decode cX6_pilgrimItem 35 = .ok (.invokevirtual 227, 3) := by decide +kernel
theorem dX6_pilgrimItem_38 : decode cX6_pilgrimItem 38 = .ok (.ldc2_w 259, 3) := by decide +kernel
theorem dX6_pilgrimItem_41 : decode cX6_pilgrimItem 41 = .ok (.lcmp, 1) := by decide +kernel
theorem dX6_pilgrimItem_42 : decode cX6_pilgrimItem 42 = .ok (.ifCond .ne 26, 3) := by decide +kernel
theorem dX6_pilgrimItem_45 : decode cX6_pilgrimItem 45 = .ok (.aload_n 0, 1) := by decide +kernel
theorem dX6_pilgrimItem_46 : decode cX6_pilgrimItem 46 = .ok (.iconst 1, 1) := by decide +kernel
theorem dX6_pilgrimItem_47 : decode cX6_pilgrimItem 47 = .ok (.invokevirtual 223, 3) := by decide +kernel
theorem dX6_pilgrimItem_50 : decode cX6_pilgrimItem 50 = .ok (.aload_n 0, 1) := by decide +kernel
theorem dX6_pilgrimItem_51 : decode cX6_pilgrimItem 51 = .ok (.iconst 0, 1) := by decide +kernel
theorem dX6_pilgrimItem_52 : decode cX6_pilgrimItem 52 = .ok (.aload_n 0, 1) := by decide +kernel
theorem dX6_pilgrimItem_53 : decode cX6_pilgrimItem 53 = .ok (.getfield 7, 3) := by decide +kernel
theorem dX6_pilgrimItem_56 : decode cX6_pilgrimItem 56 = .ok (.iconst 0, 1) := by decide +kernel
theorem dX6_pilgrimItem_57 : decode cX6_pilgrimItem 57 = .ok (.iaload, 1) := by decide +kernel
theorem dX6_pilgrimItem_58 : decode cX6_pilgrimItem 58 = .ok (.iconst 1, 1) := by decide +kernel
theorem dX6_pilgrimItem_59 : decode cX6_pilgrimItem 59 = .ok (.isub, 1) := by decide +kernel
theorem dX6_pilgrimItem_60 : decode cX6_pilgrimItem 60 = .ok (.invokevirtual 243, 3) := by decide +kernel
theorem dX6_pilgrimItem_63 : decode cX6_pilgrimItem 63 = .ok (.aload_n 0, 1) := by decide +kernel
theorem dX6_pilgrimItem_64 : decode cX6_pilgrimItem 64 = .ok (.getfield 220, 3) := by decide +kernel
theorem dX6_pilgrimItem_67 : decode cX6_pilgrimItem 67 = .ok (.istore_n 2, 1) := by decide +kernel
theorem dX6_pilgrimItem_68 : decode cX6_pilgrimItem 68 = .ok (.aload_n 0, 1) := by decide +kernel
theorem dX6_pilgrimItem_69 : decode cX6_pilgrimItem 69 = .ok (.getfield 209, 3) := by decide +kernel
theorem dX6_pilgrimItem_72 : decode cX6_pilgrimItem 72 = .ok (.ifCond .ne 10, 3) := by decide +kernel
theorem dX6_pilgrimItem_75 : decode cX6_pilgrimItem 75 = .ok (.aload_n 0, 1) := by decide +kernel
theorem dX6_pilgrimItem_76 : decode cX6_pilgrimItem 76 = .ok (.iload_n 1, 1) := by decide +kernel
theorem dX6_pilgrimItem_77 : decode cX6_pilgrimItem 77 = .ok (.iload_n 2, 1) := by decide +kernel
theorem dX6_pilgrimItem_78 : decode cX6_pilgrimItem 78 = .ok (.invokevirtual 110, 3) := by decide +kernel
theorem dX6_pilgrimItem_81 : decode cX6_pilgrimItem 81 = .ok (.istore_n 3, 1) := by decide +kernel
theorem dX6_pilgrimItem_82 : decode cX6_pilgrimItem 82 = .ok (.return_, 1) := by decide +kernel
theorem dX6_item_0 : decode cX6_item 0 = .ok (.aload_n 0, 1) := by decide +kernel
theorem dX6_item_1 : decode cX6_item 1 = .ok (.invokevirtual 261, 3) := by decide +kernel
theorem dX6_item_4 : decode cX6_item 4 = .ok (.istore_n 1, 1) := by decide +kernel
theorem dX6_item_5 : decode cX6_item 5 = .ok (.aload_n 0, 1) := by decide +kernel
theorem dX6_item_6 : decode cX6_item 6 = .ok (.invokevirtual 227, 3) := by decide +kernel
theorem dX6_item_9 : decode cX6_item 9 = .ok (.lstore_n 2, 1) := by decide +kernel
theorem dX6_item_10 : decode cX6_item 10 = .ok (.iload_n 1, 1) := by decide +kernel
theorem dX6_item_11 : decode cX6_item 11 = .ok (.ifCond .lt 11, 3) := by decide +kernel
theorem dX6_item_14 : decode cX6_item 14 = .ok (.aload_n 0, 1) := by decide +kernel
theorem dX6_item_15 : decode cX6_item 15 = .ok (.iload_n 1, 1) := by decide +kernel
theorem dX6_item_16 : decode cX6_item 16 = .ok (.invokevirtual 264, 3) := by decide +kernel
theorem dX6_item_19 : decode cX6_item 19 = .ok (.goto 120, 3) := by decide +kernel
theorem dX6_item_22 : decode cX6_item 22 = .ok (.lload_n 2, 1) := by decide +kernel
theorem dX6_item_23 : decode cX6_item 23 = .ok (.ldc2_w 267, 3) := by decide +kernel
theorem dX6_item_26 : decode cX6_item 26 = .ok (.lcmp, 1) := by decide +kernel
theorem dX6_item_27 : decode cX6_item 27 = .ok (.ifCond .ne 10, 3) := by decide +kernel
theorem dX6_item_30 : decode cX6_item 30 = .ok (.aload_n 0, 1) := by decide +kernel
theorem dX6_item_31 : decode cX6_item 31 = .ok (.invokevirtual 269, 3) := by decide +kernel
theorem dX6_item_34 : decode cX6_item 34 = .ok (.goto 105, 3) := by decide +kernel
theorem dX6_item_37 : decode cX6_item 37 = .ok (.lload_n 2, 1) := by decide +kernel
theorem dX6_item_38 : decode cX6_item 38 = .ok (.ldc2_w 272, 3) := by decide +kernel
theorem dX6_item_41 : decode cX6_item 41 = .ok (.lcmp, 1) := by decide +kernel
theorem dX6_item_42 : decode cX6_item 42 = .ok (.ifCond .ne 7, 3) := by decide +kernel
theorem dX6_item_45 : decode cX6_item 45 = .ok (.iconst 1, 1) := by decide +kernel
theorem dX6_item_46 : decode cX6_item 46 = .ok (.goto 4, 3) := by decide +kernel
theorem dX6_item_49 : decode cX6_item 49 = .ok (.iconst 0, 1) := by decide +kernel
theorem dX6_item_50 : decode cX6_item 50 = .ok (.istore 4, 2) := by decide +kernel
theorem dX6_item_52 : decode cX6_item 52 = .ok (.aload_n 0, 1) := by decide +kernel
theorem dX6_item_53 : decode cX6_item 53 = .ok (.iload 4, 2) := by decide +kernel
theorem dX6_item_55 : decode cX6_item 55 = .ok (.ifCond .ne 11, 3) := by decide +kernel
theorem dX6_item_58 : decode cX6_item 58 = .ok (.lload_n 2, 1) := by decide +kernel
theorem dX6_item_59 : decode cX6_item 59 = .ok (.ldc2_w 274, 3) := by decide +kernel
theorem dX6_item_62 : decode cX6_item 62 = .ok (.lcmp, 1) := by decide +kernel
theorem dX6_item_63 : decode cX6_item 63 = .ok (.ifCond .ne 7, 3) := by decide +kernel
theorem dX6_item_66 : decode cX6_item 66 = .ok (.iconst 1, 1) := by decide +kernel
theorem dX6_item_67 : decode cX6_item 67 = .ok (.goto 4, 3) := by decide +kernel
theorem dX6_item_70 : decode cX6_item 70 = .ok (.iconst 0, 1) := by decide +kernel
theorem dX6_item_71 : decode cX6_item 71 = .ok (.invokevirtual 223, 3) := by decide +kernel
theorem dX6_item_74 : decode cX6_item 74 = .ok (.aload_n 0, 1) := by decide +kernel
theorem dX6_item_75 : decode cX6_item 75 = .ok (.iload 4, 2) := by decide +kernel
theorem dX6_item_77 : decode cX6_item 77 = .ok (.ifCond .eq 7, 3) := by decide +kernel
theorem dX6_item_80 : decode cX6_item 80 = .ok (.iconst 0, 1) := by decide +kernel
theorem dX6_item_81 : decode cX6_item 81 = .ok (.goto 4, 3) := by decide +kernel
theorem dX6_item_84 : decode cX6_item 84 = .ok (.iconst 1, 1) := by decide +kernel
theorem dX6_item_85 : decode cX6_item 85 = .ok (.iload 4, 2) := by decide +kernel
theorem dX6_item_87 : decode cX6_item 87 = .ok (.ifCond .eq 7, 3) := by decide +kernel
theorem dX6_item_90 : decode cX6_item 90 = .ok (.iconst 5, 1) := by decide +kernel
theorem dX6_item_91 : decode cX6_item 91 = .ok (.goto 5, 3) := by decide +kernel
theorem dX6_item_94 : decode cX6_item 94 = .ok (.bipush 50, 2) := by decide +kernel
theorem dX6_item_96 : decode cX6_item 96 = .ok (.invokevirtual 243, 3) := by decide +kernel
theorem dX6_item_99 : decode cX6_item 99 = .ok (.iload 4, 2) := by decide +kernel
theorem dX6_item_101 : decode cX6_item 101 = .ok (.ifCond .eq 7, 3) := by decide +kernel
theorem dX6_item_104 : decode cX6_item 104 = .ok (.iconst 4, 1) := by decide +kernel
theorem dX6_item_105 : decode cX6_item 105 = .ok (.goto 4, 3) := by decide +kernel
theorem dX6_item_108 : decode cX6_item 108 = .ok (.iconst 3, 1) := by decide +kernel
theorem dX6_item_109 : decode cX6_item 109 = .ok (.istore 5, 2) := by decide +kernel
theorem dX6_item_111 : decode cX6_item 111 = .ok (.aload_n 0, 1) := by decide +kernel
theorem dX6_item_112 : decode cX6_item 112 = .ok (.getfield 7, 3) := by decide +kernel
theorem dX6_item_115 : decode cX6_item 115 = .ok (.iload 5, 2) := by decide +kernel
theorem dX6_item_117 : decode cX6_item 117 = .ok (.aload_n 0, 1) := by decide +kernel
theorem dX6_item_118 : decode cX6_item 118 = .ok (.getfield 209, 3) := by decide +kernel
theorem dX6_item_121 : decode cX6_item 121 = .ok (.ifCond .eq 13, 3) := by decide +kernel
theorem dX6_item_124 : decode cX6_item 124 = .ok (.aload_n 0, 1) := by decide +kernel
theorem dX6_item_125 : decode cX6_item 125 = .ok (.getfield 7, 3) := by decide +kernel
theorem dX6_item_128 : decode cX6_item 128 = .ok (.iload 5, 2) := by decide +kernel
theorem dX6_item_130 : decode cX6_item 130 = .ok (.iaload, 1) := by decide +kernel
theorem dX6_item_131 : decode cX6_item 131 = .ok (.goto 7, 3) := by decide +kernel
theorem dX6_item_134 : decode cX6_item 134 = .ok (.aload_n 0, 1) := by decide +kernel
theorem dX6_item_135 : decode cX6_item 135 = .ok (.getfield 220, 3) := by decide +kernel
theorem dX6_item_138 : decode cX6_item 138 = .ok (.iastore, 1) := by decide +kernel
theorem dX6_item_139 : decode cX6_item 139 = .ok (.return_, 1) := by decide +kernel
theorem dX6_spring_0 : decode cX6_spring 0 = .ok (.aload_n 0, 1) := by decide +kernel
theorem dX6_spring_1 : decode cX6_spring 1 = .ok (.invokevirtual 276, 3) := by decide +kernel
theorem dX6_spring_4 : decode cX6_spring 4 = .ok (.aload_n 0, 1) := by decide +kernel
theorem dX6_spring_5 : decode cX6_spring 5 = .ok (.iconst 0, 1) := by decide +kernel
theorem dX6_spring_6 : decode cX6_spring 6 = .ok (.putfield 209, 3) := by decide +kernel
theorem dX6_spring_9 : decode cX6_spring 9 = .ok (.aload_n 0, 1) := by decide +kernel
theorem dX6_spring_10 : decode cX6_spring 10 = .ok (.iconst 0, 1) := by decide +kernel
theorem dX6_spring_11 : decode cX6_spring 11 = .ok (.putfield 194, 3) := by decide +kernel
theorem dX6_spring_14 : decode cX6_spring 14 = .ok (.aload_n 0, 1) := by decide +kernel
theorem dX6_spring_15 : decode cX6_spring 15 = .ok (.invokevirtual 213, 3) := by decide +kernel
theorem dX6_spring_18 : decode cX6_spring 18 = .ok (.iconst 1, 1) := by decide +kernel
theorem dX6_spring_19 : decode cX6_spring 19 = .ok (.istore_n 1, 1) := by decide +kernel
theorem dX6_spring_20 : decode cX6_spring 20 = .ok (.aload_n 0, 1) := by decide +kernel
theorem dX6_spring_21 : decode cX6_spring 21 = .ok (.invokevirtual 279, 3) := by decide +kernel
theorem dX6_spring_24 : decode cX6_spring 24 = .ok (.aload_n 0, 1) := by decide +kernel
theorem dX6_spring_25 : decode cX6_spring 25 = .ok (.getfield 209, 3) := by decide +kernel
theorem dX6_spring_28 : decode cX6_spring 28 = .ok (.ifCond .ne 31, 3) := by decide +kernel
theorem dX6_spring_31 : decode cX6_spring 31 = .ok (.aload_n 0, 1) := by decide +kernel
theorem dX6_spring_32 : decode cX6_spring 32 = .ok (.aload_n 0, 1) := by decide +kernel
theorem dX6_spring_33 : decode cX6_spring 33 = .ok (.getfield 197, 3) := by decide +kernel
theorem dX6_spring_36 : decode cX6_spring 36 = .ok (.invokevirtual 200, 3) := by decide +kernel
theorem dX6_spring_39 : decode cX6_spring 39 = .ok (.bipush 59, 2) := by decide +kernel
theorem dX6_spring_41 : decode cX6_spring 41 = .ok (.if_icmp .ne 18, 3) := by decide +kernel
theorem dX6_spring_44 : decode cX6_spring 44 = .ok (.aload_n 0, 1) := by decide +kernel
theorem dX6_spring_45 : decode cX6_spring 45 = .ok (.iconst 1, 1) := by decide +kernel
theorem dX6_spring_46 : decode cX6_spring 46 = .ok (.invokevirtual 223, 3) := by decide +kernel
theorem dX6_spring_49 : decode cX6_spring 49 = .ok (.aload_n 0, 1) := by decide +kernel
theorem dX6_spring_50 : decode cX6_spring 50 = .ok (.invokevirtual 279, 3) := by decide +kernel
theorem dX6_spring_53 : decode cX6_spring 53 = .ok (.iinc 1 1, 3) := by decide +kernel
theorem dX6_spring_56 : decode cX6_spring 56 = .ok (.goto (-32), 3) := by decide +kernel
theorem dX6_spring_59 : decode cX6_spring 59 = .ok (.aload_n 0, 1) := by decide +kernel
theorem dX6_spring_60 : decode cX6_spring 60 = .ok (.aload_n 0, 1) := by decide +kernel
theorem dX6_spring_61 : decode cX6_spring 61 = .ok (.getfield 209, 3) := by decide +kernel
theorem dX6_spring_64 : decode cX6_spring 64 = .ok (.ifCond .ne 14, 3) := by decide +kernel
theorem dX6_spring_67 : decode cX6_spring 67 = .ok (.aload_n 0, 1) := by decide +kernel
theorem dX6_spring_68 : decode cX6_spring 68 = .ok (.getfield 197, 3) := by decide +kernel
theorem dX6_spring_71 : decode cX6_spring 71 = .ok (.aload_n 0, 1) := by decide +kernel
theorem dX6_spring_72 : decode cX6_spring 72 = .ok (.getfield 182, 3) := by decide +kernel
theorem dX6_spring_75 : decode cX6_spring 75 = .ok (.if_icmp .ge 7, 3) := by decide +kernel
theorem dX6_spring_78 : decode cX6_spring 78 = .ok (.iconst 1, 1) := by decide +kernel
theorem dX6_spring_79 : decode cX6_spring 79 = .ok (.goto 4, 3) := by decide +kernel
theorem dX6_spring_82 : decode cX6_spring 82 = .ok (.iconst 0, 1) := by decide +kernel
theorem dX6_spring_83 : decode cX6_spring 83 = .ok (.putfield 209, 3) := by decide +kernel
theorem dX6_spring_86 : decode cX6_spring 86 = .ok (.aload_n 0, 1) := by decide +kernel
theorem dX6_spring_87 : decode cX6_spring 87 = .ok (.getfield 209, 3) := by decide +kernel
theorem dX6_spring_90 : decode cX6_spring 90 = .ok (.ifCond .eq 7, 3) := by decide +kernel
theorem dX6_spring_93 : decode cX6_spring 93 = .ok (.aload_n 0, 1) := by decide +kernel
theorem dX6_spring_94 : decode cX6_spring 94 = .ok (.invokevirtual 282, 3) := by decide +kernel
theorem dX6_spring_97 : decode cX6_spring 97 = .ok (.aload_n 0, 1) := by decide +kernel
theorem dX6_spring_98 : decode cX6_spring 98 = .ok (.iconst 0, 1) := by decide +kernel
theorem dX6_spring_99 : decode cX6_spring 99 = .ok (.putfield 182, 3) := by decide +kernel
theorem dX6_spring_102 : decode cX6_spring 102 = .ok (.aload_n 0, 1) := by decide +kernel
theorem dX6_spring_103 : decode cX6_spring 103 = .ok (.getfield 209, 3) := by decide +kernel
theorem dX6_spring_106 : decode cX6_spring 106 = .ok (.ifCond .eq 12, 3) := by decide +kernel
theorem dX6_spring_109 : decode cX6_spring 109 = .ok (.iconst (-1), 1) := by decide +kernel
theorem dX6_spring_110 : decode cX6_spring 110 = .ok (.aload_n 0, 1) := by decide +kernel
theorem dX6_spring_111 : decode cX6_spring 111 = .ok (.getfield 197, 3) := by decide +kernel
theorem dX6_spring_114 : decode cX6_spring 114 = .ok (.isub, 1) := by decide +kernel
theorem dX6_spring_115 : decode cX6_spring 115 = .ok (.goto 4, 3) := by decide +kernel
theorem dX6_spring_118 : decode cX6_spring 118 = .ok (.iload_n 1, 1) := by decide +kernel
theorem dX6_spring_119 : decode cX6_spring 119 = .ok (.ireturn, 1) := by decide +kernel
theorem dX6_isOne_0 : decode cX6_isOne 0 = .ok (.iload_n 0, 1) := by decide +kernel
theorem dX6_isOne_1 : decode cX6_isOne 1 = .ok (.i2l, 1) := by decide +kernel
theorem dX6_isOne_2 : decode cX6_isOne 2 = .ok (.lconst 0, 1) := by decide +kernel
theorem dX6_isOne_3 : decode cX6_isOne 3 = .ok (.ldc2_w 100, 3) := by decide +kernel
theorem dX6_isOne_6 : decode cX6_isOne 6 = .ok (.invokestatic 42, 3) := by decide +kernel
theorem dX6_isOne_9 : decode cX6_isOne 9 = .ok (.ireturn, 1) := by decide +kernel
theorem dX6_sheet_0 : decode cX6_sheet 0 = .ok (.iload_n 1, 1) := by decide +kernel
theorem dX6_sheet_1 : decode cX6_sheet 1 = .ok (.invokestatic 285, 3) := by decide +kernel
theorem dX6_sheet_4 : decode cX6_sheet 4 = .ok (.ifCond .eq 25, 3) := by decide +kernel
theorem dX6_sheet_7 : decode cX6_sheet 7 = .ok (.iload_n 2, 1) := by decide +kernel
theorem dX6_sheet_8 : decode cX6_sheet 8 = .ok (.ifCond .eq 28, 3) := by decide +kernel
theorem dX6_sheet_11 : decode cX6_sheet 11 = .ok (.iload_n 2, 1) := by decide +kernel
theorem dX6_sheet_12 : decode cX6_sheet 12 = .ok (.bipush 8, 2) := by decide +kernel
theorem dX6_sheet_14 : decode cX6_sheet 14 = .ok (.if_icmp .eq 22, 3) := by decide +kernel
theorem dX6_sheet_17 : decode cX6_sheet 17 = .ok (.iload_n 2, 1) := by decide +kernel
theorem dX6_sheet_18 : decode cX6_sheet 18 = .ok (.bipush 16, 2) := by decide +kernel
theorem dX6_sheet_20 : decode cX6_sheet 20 = .ok (.if_icmp .eq 16, 3) := by decide +kernel
theorem dX6_sheet_23 : decode cX6_sheet 23 = .ok (.iload_n 2, 1) := by decide +kernel
theorem dX6_sheet_24 : decode cX6_sheet 24 = .ok (.bipush 64, 2) := by decide +kernel
theorem dX6_sheet_26 : decode cX6_sheet 26 = .ok (.if_icmp .eq 10, 3) := by decide +kernel
theorem dX6_sheet_29 : decode cX6_sheet 29 = .ok (.aload_n 0, 1) := by decide +kernel
theorem dX6_sheet_30 : decode cX6_sheet 30 = .ok (.ldc 41, 2) := by decide +kernel
theorem dX6_sheet_32 : decode cX6_sheet 32 = .ok (.invokevirtual 59, 3) := by decide +kernel
theorem dX6_sheet_35 : decode cX6_sheet 35 = .ok (.ireturn, 1) := by decide +kernel
theorem dX6_sheet_36 : decode cX6_sheet 36 = .ok (.iload_n 3, 1) := by decide +kernel
theorem dX6_sheet_37 : decode cX6_sheet 37 = .ok (.ifCond .ge 11, 3) := by decide +kernel
theorem dX6_sheet_40 : decode cX6_sheet 40 = .ok (.aload_n 0, 1) := by decide +kernel
theorem dX6_sheet_41 : decode cX6_sheet 41 = .ok (.ldc_w 288, 3) := by decide +kernel
theorem dX6_sheet_44 : decode cX6_sheet 44 = .ok (.invokevirtual 59, 3) := by decide +kernel
theorem dX6_sheet_47 : decode cX6_sheet 47 = .ok (.ireturn, 1) := by decide +kernel
theorem dX6_sheet_48 : decode cX6_sheet 48 = .ok (.iload_n 3, 1) := by decide +kernel
theorem dX6_sheet_49 : decode cX6_sheet 49 = .ok (.bipush 40, 2) := by decide +kernel
theorem dX6_sheet_51 : decode cX6_sheet 51 = .ok (.if_icmp .le 10, 3) := by decide +kernel
theorem dX6_sheet_54 : decode cX6_sheet 54 = .ok (.aload_n 0, 1) := by decide +kernel
theorem dX6_sheet_55 : decode cX6_sheet 55 = .ok (.ldc 41, 2) := by decide +kernel
theorem dX6_sheet_57 : decode cX6_sheet 57 = .ok (.invokevirtual 59, 3) := by decide +kernel
theorem dX6_sheet_60 : decode cX6_sheet 60 = .ok (.ireturn, 1) := by decide +kernel
theorem dX6_sheet_61 : decode cX6_sheet 61 = .ok (.aload_n 0, 1) := by decide +kernel
theorem dX6_sheet_62 : decode cX6_sheet 62 = .ok (.getfield 28, 3) := by decide +kernel
theorem dX6_sheet_65 : decode cX6_sheet 65 = .ok (.iload_n 1, 1) := by decide +kernel
theorem dX6_sheet_66 : decode cX6_sheet 66 = .ok (.iload_n 2, 1) := by decide +kernel
theorem dX6_sheet_67 : decode cX6_sheet 67 = .ok (.iastore, 1) := by decide +kernel
theorem dX6_sheet_68 : decode cX6_sheet 68 = .ok (.aload_n 0, 1) := by decide +kernel
theorem dX6_sheet_69 : decode cX6_sheet 69 = .ok (.getfield 31, 3) := by decide +kernel
theorem dX6_sheet_72 : decode cX6_sheet 72 = .ok (.iload_n 1, 1) := by decide +kernel
theorem dX6_sheet_73 : decode cX6_sheet 73 = .ok (.iload_n 2, 1) := by decide +kernel
theorem dX6_sheet_74 : decode cX6_sheet 74 = .ok (.ifCond .ne 7, 3) := by decide +kernel
theorem dX6_sheet_77 : decode cX6_sheet 77 = .ok (.iconst 0, 1) := by decide +kernel
theorem dX6_sheet_78 : decode cX6_sheet 78 = .ok (.goto 4, 3) := by decide +kernel
theorem dX6_sheet_81 : decode cX6_sheet 81 = .ok (.iload_n 3, 1) := by decide +kernel
theorem dX6_sheet_82 : decode cX6_sheet 82 = .ok (.iastore, 1) := by decide +kernel
theorem dX6_sheet_83 : decode cX6_sheet 83 = .ok (.iconst 0, 1) := by decide +kernel
theorem dX6_sheet_84 : decode cX6_sheet 84 = .ok (.istore 4, 2) := by decide +kernel
theorem dX6_sheet_86 : decode cX6_sheet 86 = .ok (.iload 4, 2) := by decide +kernel
theorem dX6_sheet_88 : decode cX6_sheet 88 = .ok (.bipush 40, 2) := by decide +kernel
theorem dX6_sheet_90 : decode cX6_sheet 90 = .ok (.if_icmp .ge 22, 3) := by decide +kernel
theorem dX6_sheet_93 : decode cX6_sheet 93 = .ok (.aload_n 0, 1) := by decide +kernel
theorem dX6_sheet_94 : decode cX6_sheet 94 = .ok (.getfield 34, 3) := by decide +kernel
theorem dX6_sheet_97 : decode cX6_sheet 97 = .ok (.bipush 40, 2) := by decide +kernel
theorem dX6_sheet_99 : decode cX6_sheet 99 = .ok (.iload_n 1, 1) := by decide +kernel
theorem dX6_sheet_100 : decode cX6_sheet 100 = .ok (.imul, 1) := by decide +kernel
theorem dX6_sheet_101 : decode cX6_sheet 101 = .ok (.iload 4, 2) := by decide +kernel
theorem dX6_sheet_103 : decode cX6_sheet 103 = .ok (.iadd, 1) := by decide +kernel
theorem dX6_sheet_104 : decode cX6_sheet 104 = .ok (.lconst 0, 1) := by decide +kernel
theorem dX6_sheet_105 : decode cX6_sheet 105 = .ok (.lastore, 1) := by decide +kernel
theorem dX6_sheet_106 : decode cX6_sheet 106 = .ok (.iinc 4 1, 3) := by decide +kernel
theorem dX6_sheet_109 : decode cX6_sheet 109 = .ok (.goto (-23), 3) := by decide +kernel
theorem dX6_sheet_112 : decode cX6_sheet 112 = .ok (.aload_n 0, 1) := by decide +kernel
theorem dX6_sheet_113 : decode cX6_sheet 113 = .ok (.getfield 31, 3) := by decide +kernel
theorem dX6_sheet_116 : decode cX6_sheet 116 = .ok (.iload_n 1, 1) := by decide +kernel
theorem dX6_sheet_117 : decode cX6_sheet 117 = .ok (.iaload, 1) := by decide +kernel
theorem dX6_sheet_118 : decode cX6_sheet 118 = .ok (.ireturn, 1) := by decide +kernel
theorem dX6_narrowed_0 : decode cX6_narrowed 0 = .ok (.iload_n 0, 1) := by decide +kernel
theorem dX6_narrowed_1 : decode cX6_narrowed 1 = .ok (.bipush 8, 2) := by decide +kernel
theorem dX6_narrowed_3 : decode cX6_narrowed 3 = .ok (.if_icmp .ne 10, 3) := by decide +kernel
theorem dX6_narrowed_6 : decode cX6_narrowed 6 = .ok (.lload_n 1, 1) := by decide +kernel
theorem dX6_narrowed_7 : decode cX6_narrowed 7 = .ok (.l2i, 1) := by decide +kernel
theorem dX6_narrowed_8 : decode cX6_narrowed 8 = .ok (.i2b, 1) := by decide +kernel
theorem dX6_narrowed_9 : decode cX6_narrowed 9 = .ok (.i2l, 1) := by decide +kernel
theorem dX6_narrowed_10 : decode cX6_narrowed 10 = .ok (.goto 17, 3) := by decide +kernel
theorem dX6_narrowed_13 : decode cX6_narrowed 13 = .ok (.iload_n 0, 1) := by decide +kernel
theorem dX6_narrowed_14 : decode cX6_narrowed 14 = .ok (.bipush 16, 2) := by decide +kernel
theorem dX6_narrowed_16 : decode cX6_narrowed 16 = .ok (.if_icmp .ne 10, 3) := by decide +kernel
theorem dX6_narrowed_19 : decode cX6_narrowed 19 = .ok (.lload_n 1, 1) := by decide +kernel
theorem dX6_narrowed_20 : decode cX6_narrowed 20 = .ok (.l2i, 1) := by decide +kernel
theorem dX6_narrowed_21 : decode cX6_narrowed 21 = .ok (.i2s, 1) := by decide +kernel
theorem dX6_narrowed_22 : decode cX6_narrowed 22 = .ok (.i2l, 1) := by decide +kernel
theorem dX6_narrowed_23 : decode cX6_narrowed 23 = .ok (.goto 4, 3) := by decide +kernel
theorem dX6_narrowed_26 : decode cX6_narrowed 26 = .ok (.lload_n 1, 1) := by decide +kernel
theorem dX6_narrowed_27 : decode cX6_narrowed 27 = .ok (.lreturn, 1) := by decide +kernel
theorem dX6_wrongSheet_0 : decode cX6_wrongSheet 0 = .ok (.iload_n 1, 1) := by decide +kernel
theorem dX6_wrongSheet_1 : decode cX6_wrongSheet 1 = .ok (.invokestatic 285, 3) := by decide +kernel
theorem dX6_wrongSheet_4 : decode cX6_wrongSheet 4 = .ok (.ifCond .ne 8, 3) := by decide +kernel
theorem dX6_wrongSheet_7 : decode cX6_wrongSheet 7 = .ok (.ldc 41, 2) := by decide +kernel
theorem dX6_wrongSheet_9 : decode cX6_wrongSheet 9 = .ok (.goto 19, 3) := by decide +kernel
theorem dX6_wrongSheet_12 : decode cX6_wrongSheet 12 = .ok (.aload_n 0, 1) := by decide +kernel
theorem dX6_wrongSheet_13 : decode cX6_wrongSheet 13 = .ok (.getfield 28, 3) := by decide +kernel
theorem dX6_wrongSheet_16 : decode cX6_wrongSheet 16 = .ok (.iload_n 1, 1) := by decide +kernel
theorem dX6_wrongSheet_17 : decode cX6_wrongSheet 17 = .ok (.iaload, 1) := by decide +kernel
theorem dX6_wrongSheet_18 : decode cX6_wrongSheet 18 = .ok (.ifCond .ne 9, 3) := by decide +kernel
theorem dX6_wrongSheet_21 : decode cX6_wrongSheet 21 = .ok (.ldc_w 289, 3) := by decide +kernel
theorem dX6_wrongSheet_24 : decode cX6_wrongSheet 24 = .ok (.goto 4, 3) := by decide +kernel
theorem dX6_wrongSheet_27 : decode cX6_wrongSheet 27 = .ok (.iconst 0, 1) := by decide +kernel
theorem dX6_wrongSheet_28 : decode cX6_wrongSheet 28 = .ok (.ireturn, 1) := by decide +kernel
theorem dX6_write_0 : decode cX6_write 0 = .ok (.aload_n 0, 1) := by decide +kernel
theorem dX6_write_1 : decode cX6_write 1 = .ok (.iload_n 1, 1) := by decide +kernel
theorem dX6_write_2 : decode cX6_write 2 = .ok (.invokevirtual 290, 3) := by decide +kernel
theorem dX6_write_5 : decode cX6_write 5 = .ok (.istore 5, 2) := by decide +kernel
theorem dX6_write_7 : decode cX6_write 7 = .ok (.iload 5, 2) := by decide +kernel
theorem dX6_write_9 : decode cX6_write 9 = .ok (.ifCond .eq 11, 3) := by decide +kernel
theorem dX6_write_12 : decode cX6_write 12 = .ok (.aload_n 0, 1) := by decide +kernel
theorem dX6_write_13 : decode cX6_write 13 = .ok (.iload 5, 2) := by decide +kernel
theorem dX6_write_15 : decode cX6_write 15 = .ok (.invokevirtual 59, 3) := by decide +kernel
theorem dX6_write_18 : decode cX6_write 18 = .ok (.i2l, 1) := by decide +kernel
theorem dX6_write_19 : decode cX6_write 19 = .ok (.lreturn, 1) := by decide +kernel
theorem dX6_write_20 : decode cX6_write 20 = .ok (.iload_n 2, 1) := by decide +kernel
theorem dX6_write_21 : decode cX6_write 21 = .ok (.i2l, 1) := by decide +kernel
theorem dX6_write_22 : decode cX6_write 22 = .ok (.lconst 0, 1) := by decide +kernel
theorem dX6_write_23 : decode cX6_write 23 = .ok (.aload_n 0, 1) := by decide +kernel
theorem dX6_write_24 : decode cX6_write 24 = .ok (.getfield 31, 3) := by decide +kernel
theorem dX6_write_27 : decode cX6_write 27 = .ok (.iload_n 1, 1) := by decide +kernel
theorem dX6_write_28 : decode cX6_write 28 = .ok (.iaload, 1) := by decide +kernel
theorem dX6_write_29 : decode cX6_write 29 = .ok (.iconst 1, 1) := by decide +kernel
theorem dX6_write_30 : decode cX6_write 30 = .ok (.isub, 1) := by decide +kernel
theorem dX6_write_31 : decode cX6_write 31 = .ok (.i2l, 1) := by decide +kernel
theorem dX6_write_32 : decode cX6_write 32 = .ok (.invokestatic 42, 3) := by decide +kernel
theorem dX6_write_35 : decode cX6_write 35 = .ok (.ifCond .ne 11, 3) := by decide +kernel
theorem dX6_write_38 : decode cX6_write 38 = .ok (.aload_n 0, 1) := by decide +kernel
theorem dX6_write_39 : decode cX6_write 39 = .ok (.ldc 41, 2) := by decide +kernel
theorem dX6_write_41 : decode cX6_write 41 = .ok (.invokevirtual 59, 3) := by decide +kernel
theorem dX6_write_44 : decode cX6_write 44 = .ok (.i2l, 1) := by decide +kernel
theorem dX6_write_45 : decode cX6_write 45 = .ok (.lreturn, 1) := by decide +kernel
theorem dX6_write_46 : decode cX6_write 46 = .ok (.aload_n 0, 1) := by decide +kernel
theorem dX6_write_47 : decode cX6_write 47 = .ok (.getfield 34, 3) := by decide +kernel
theorem dX6_write_50 : decode cX6_write 50 = .ok (.bipush 40, 2) := by decide +kernel
theorem dX6_write_52 : decode cX6_write 52 = .ok (.iload_n 1, 1) := by decide +kernel
theorem dX6_write_53 : decode cX6_write 53 = .ok (.imul, 1) := by decide +kernel
theorem dX6_write_54 : decode cX6_write 54 = .ok (.iload_n 2, 1) := by decide +kernel
theorem dX6_write_55 : decode cX6_write 55 = .ok (.iadd, 1) := by decide +kernel
theorem dX6_write_56 : decode cX6_write 56 = .ok (.laload, 1) := by decide +kernel
theorem dX6_write_57 : decode cX6_write 57 = .ok (.lstore 6, 2) := by decide +kernel
theorem dX6_write_59 : decode cX6_write 59 = .ok (.aload_n 0, 1) := by decide +kernel
theorem dX6_write_60 : decode cX6_write 60 = .ok (.getfield 34, 3) := by decide +kernel
theorem dX6_write_63 : decode cX6_write 63 = .ok (.bipush 40, 2) := by decide +kernel
theorem dX6_write_65 : decode cX6_write 65 = .ok (.iload_n 1, 1) := by decide +kernel
theorem dX6_write_66 : decode cX6_write 66 = .ok (.imul, 1) := by decide +kernel
theorem dX6_write_67 : decode cX6_write 67 = .ok (.iload_n 2, 1) := by decide +kernel
theorem dX6_write_68 : decode cX6_write 68 = .ok (.iadd, 1) := by decide +kernel
theorem dX6_write_69 : decode cX6_write 69 = .ok (.aload_n 0, 1) := by decide +kernel
theorem dX6_write_70 : decode cX6_write 70 = .ok (.getfield 28, 3) := by decide +kernel
theorem dX6_write_73 : decode cX6_write 73 = .ok (.iload_n 1, 1) := by decide +kernel
theorem dX6_write_74 : decode cX6_write 74 = .ok (.iaload, 1) := by decide +kernel
theorem dX6_write_75 : decode cX6_write 75 = .ok (.lload_n 3, 1) := by decide +kernel
theorem dX6_write_76 : decode cX6_write 76 = .ok (.invokestatic 293, 3) := by decide +kernel
theorem dX6_write_79 : decode cX6_write 79 = .ok (.lastore, 1) := by decide +kernel
theorem dX6_write_80 : decode cX6_write 80 = .ok (.lload 6, 2) := by decide +kernel
theorem dX6_write_82 : decode cX6_write 82 = .ok (.lreturn, 1) := by decide +kernel
theorem dX6_copy_0 : decode cX6_copy 0 = .ok (.iload_n 1, 1) := by decide +kernel
theorem dX6_copy_1 : decode cX6_copy 1 = .ok (.invokestatic 285, 3) := by decide +kernel
theorem dX6_copy_4 : decode cX6_copy 4 = .ok (.ifCond .eq 10, 3) := by decide +kernel
theorem dX6_copy_7 : decode cX6_copy 7 = .ok (.iload_n 3, 1) := by decide +kernel
theorem dX6_copy_8 : decode cX6_copy 8 = .ok (.invokestatic 285, 3) := by decide +kernel
theorem dX6_copy_11 : decode cX6_copy 11 = .ok (.ifCond .ne 10, 3) := by decide +kernel
theorem dX6_copy_14 : decode cX6_copy 14 = .ok (.aload_n 0, 1) := by decide +kernel
theorem dX6_copy_15 : decode cX6_copy 15 = .ok (.ldc 41, 2) := by decide +kernel
theorem dX6_copy_17 : decode cX6_copy 17 = .ok (.invokevirtual 59, 3) := by decide +kernel
theorem dX6_copy_20 : decode cX6_copy 20 = .ok (.ireturn, 1) := by decide +kernel
theorem dX6_copy_21 : decode cX6_copy 21 = .ok (.aload_n 0, 1) := by decide +kernel
theorem dX6_copy_22 : decode cX6_copy 22 = .ok (.getfield 28, 3) := by decide +kernel
theorem dX6_copy_25 : decode cX6_copy 25 = .ok (.iload_n 1, 1) := by decide +kernel
theorem dX6_copy_26 : decode cX6_copy 26 = .ok (.iaload, 1) := by decide +kernel
theorem dX6_copy_27 : decode cX6_copy 27 = .ok (.ifCond .eq 12, 3) := by decide +kernel
theorem dX6_copy_30 : decode cX6_copy 30 = .ok (.aload_n 0, 1) := by decide +kernel
theorem dX6_copy_31 : decode cX6_copy 31 = .ok (.getfield 28, 3) := by decide +kernel
theorem dX6_copy_34 : decode cX6_copy 34 = .ok (.iload_n 3, 1) := by decide +kernel
theorem dX6_copy_35 : decode cX6_copy 35 = .ok (.iaload, 1) := by decide +kernel
theorem dX6_copy_36 : decode cX6_copy 36 = .ok (.ifCond .ne 11, 3) := by decide +kernel
theorem dX6_copy_39 : decode cX6_copy 39 = .ok (.aload_n 0, 1) := by decide +kernel
theorem dX6_copy_40 : decode cX6_copy 40 = .ok (.ldc_w 289, 3) := by decide +kernel
theorem dX6_copy_43 : decode cX6_copy 43 = .ok (.invokevirtual 59, 3) := by decide +kernel
theorem dX6_copy_46 : decode cX6_copy 46 = .ok (.ireturn, 1) := by decide +kernel
theorem dX6_copy_47 : decode cX6_copy 47 = .ok (.aload_n 0, 1) := by decide +kernel
theorem dX6_copy_48 : decode cX6_copy 48 = .ok (.getfield 28, 3) := by decide +kernel
theorem dX6_copy_51 : decode cX6_copy 51 = .ok (.iload_n 1, 1) := by decide +kernel
theorem dX6_copy_52 : decode cX6_copy 52 = .ok (.iaload, 1) := by decide +kernel
theorem dX6_copy_53 : decode cX6_copy 53 = .ok (.aload_n 0, 1) := by decide +kernel
theorem dX6_copy_54 : decode cX6_copy 54 = .ok (.getfield 28, 3) := by decide +kernel
theorem dX6_copy_57 : decode cX6_copy 57 = .ok (.iload_n 3, 1) := by decide +kernel
theorem dX6_copy_58 : decode cX6_copy 58 = .ok (.iaload, 1) := by decide +kernel
theorem dX6_copy_59 : decode cX6_copy 59 = .ok (.if_icmp .eq 10, 3) := by decide +kernel
theorem dX6_copy_62 : decode cX6_copy 62 = .ok (.aload_n 0, 1) := by decide +kernel
theorem dX6_copy_63 : decode cX6_copy 63 = .ok (.ldc 88, 2) := by decide +kernel
theorem dX6_copy_65 : decode cX6_copy 65 = .ok (.invokevirtual 59, 3) := by decide +kernel
theorem dX6_copy_68 : decode cX6_copy 68 = .ok (.ireturn, 1) := by decide +kernel
theorem dX6_copy_69 : decode cX6_copy 69 = .ok (.iload_n 2, 1) := by decide +kernel
theorem dX6_copy_70 : decode cX6_copy 70 = .ok (.ifCond .lt 40, 3) := by decide +kernel
theorem dX6_copy_73 : decode cX6_copy 73 = .ok (.iload 4, 2) := by decide +kernel
theorem dX6_copy_75 : decode cX6_copy 75 = .ok (.ifCond .lt 35, 3) := by decide +kernel
theorem dX6_copy_78 : decode cX6_copy 78 = .ok (.iload 5, 2) := by decide +kernel
theorem dX6_copy_80 : decode cX6_copy 80 = .ok (.ifCond .lt 30, 3) := by decide +kernel
theorem dX6_copy_83 : decode cX6_copy 83 = .ok (.iload 5, 2) := by decide +kernel
theorem dX6_copy_85 : decode cX6_copy 85 = .ok (.aload_n 0, 1) := by decide +kernel
theorem dX6_copy_86 : decode cX6_copy 86 = .ok (.getfield 31, 3) := by decide +kernel
theorem dX6_copy_89 : decode cX6_copy 89 = .ok (.iload_n 1, 1) := by decide +kernel
theorem dX6_copy_90 : decode cX6_copy 90 = .ok (.iaload, 1) := by decide +kernel
theorem dX6_copy_91 : decode cX6_copy 91 = .ok (.iload_n 2, 1) := by decide +kernel
theorem dX6_copy_92 : decode cX6_copy 92 = .ok (.isub, 1) := by decide +kernel
theorem dX6_copy_93 : decode cX6_copy 93 = .ok (.if_icmp .gt 17, 3) := by decide +kernel
theorem dX6_copy_96 : decode cX6_copy 96 = .ok (.iload 5, 2) := by decide +kernel
theorem dX6_copy_98 : decode cX6_copy 98 = .ok (.aload_n 0, 1) := by decide +kernel
theorem dX6_copy_99 : decode cX6_copy 99 = .ok (.getfield 31, 3) := by decide +kernel
theorem dX6_copy_102 : decode cX6_copy 102 = .ok (.iload_n 3, 1) := by decide +kernel
theorem dX6_copy_103 : decode cX6_copy 103 = .ok (.iaload, 1) := by decide +kernel
theorem dX6_copy_104 : decode cX6_copy 104 = .ok (.iload 4, 2) := by decide +kernel
theorem dX6_copy_106 : decode cX6_copy 106 = .ok (.isub, 1) := by decide +kernel
theorem dX6_copy_107 : decode cX6_copy 107 = .ok (.if_icmp .le 10, 3) := by decide +kernel
theorem dX6_copy_110 : decode cX6_copy 110 = .ok (.aload_n 0, 1) := by decide +kernel
theorem dX6_copy_111 : decode cX6_copy 111 = .ok (.ldc 41, 2) := by decide +kernel
theorem dX6_copy_113 : decode cX6_copy 113 = .ok (.invokevirtual 59, 3) := by decide +kernel
theorem dX6_copy_116 : decode cX6_copy 116 = .ok (.ireturn, 1) := by decide +kernel
theorem dX6_copy_117 : decode cX6_copy 117 = .ok (.iconst 0, 1) := by decide +kernel
theorem dX6_copy_118 : decode cX6_copy 118 = .ok (.istore 6, 2) := by decide +kernel
theorem dX6_copy_120 : decode cX6_copy 120 = .ok (.iload 6, 2) := by decide +kernel
theorem dX6_copy_122 : decode cX6_copy 122 = .ok (.iload 5, 2) := by decide +kernel
theorem dX6_copy_124 : decode cX6_copy 124 = .ok (.if_icmp .ge 30, 3) := by decide +kernel
theorem dX6_copy_127 : decode cX6_copy 127 = .ok (.aload_n 0, 1) := by decide +kernel
theorem dX6_copy_128 : decode cX6_copy 128 = .ok (.getfield 38, 3) := by decide +kernel
theorem dX6_copy_131 : decode cX6_copy 131 = .ok (.iload 6, 2) := by decide +kernel
theorem dX6_copy_133 : decode cX6_copy 133 = .ok (.aload_n 0, 1) := by decide +kernel
theorem dX6_copy_134 : decode cX6_copy 134 = .ok (.getfield 34, 3) := by decide +kernel
theorem dX6_copy_137 : decode cX6_copy 137 = .ok (.bipush 40, 2) := by decide +kernel
theorem dX6_copy_139 : decode cX6_copy 139 = .ok (.iload_n 1, 1) := by decide +kernel
theorem dX6_copy_140 : decode cX6_copy 140 = .ok (.imul, 1) := by decide +kernel
theorem dX6_copy_141 : decode cX6_copy 141 = .ok (.iload_n 2, 1) := by decide +kernel
theorem dX6_copy_142 : decode cX6_copy 142 = .ok (.iadd, 1) := by decide +kernel
theorem dX6_copy_143 : decode cX6_copy 143 = .ok (.iload 6, 2) := by decide +kernel
theorem dX6_copy_145 : decode cX6_copy 145 = .ok (.iadd, 1) := by decide +kernel
theorem dX6_copy_146 : decode cX6_copy 146 = .ok (.laload, 1) := by decide +kernel
theorem dX6_copy_147 : decode cX6_copy 147 = .ok (.lastore, 1) := by decide +kernel
theorem dX6_copy_148 : decode cX6_copy 148 = .ok (.iinc 6 1, 3) := by decide +kernel
theorem dX6_copy_151 : decode cX6_copy 151 = .ok (.goto (-31), 3) := by decide +kernel
theorem dX6_copy_154 : decode cX6_copy 154 = .ok (.iconst 0, 1) := by decide +kernel
theorem dX6_copy_155 : decode cX6_copy 155 = .ok (.istore 6, 2) := by decide +kernel
theorem dX6_copy_157 : decode cX6_copy 157 = .ok (.iload 6, 2) := by decide +kernel
theorem dX6_copy_159 : decode cX6_copy 159 = .ok (.iload 5, 2) := by decide +kernel
theorem dX6_copy_161 : decode cX6_copy 161 = .ok (.if_icmp .ge 31, 3) := by decide +kernel
theorem dX6_copy_164 : decode cX6_copy 164 = .ok (.aload_n 0, 1) := by decide +kernel
theorem dX6_copy_165 : decode cX6_copy 165 = .ok (.getfield 34, 3) := by decide +kernel
theorem dX6_copy_168 : decode cX6_copy 168 = .ok (.bipush 40, 2) := by decide +kernel
theorem dX6_copy_170 : decode cX6_copy 170 = .ok (.iload_n 3, 1) := by decide +kernel
theorem dX6_copy_171 : decode cX6_copy 171 = .ok (.imul, 1) := by decide +kernel
theorem dX6_copy_172 : decode cX6_copy 172 = .ok (.iload 4, 2) := by decide +kernel
theorem dX6_copy_174 : decode cX6_copy 174 = .ok (.iadd, 1) := by decide +kernel
theorem dX6_copy_175 : decode cX6_copy 175 = .ok (.iload 6, 2) := by decide +kernel
theorem dX6_copy_177 : decode cX6_copy 177 = .ok (.iadd, 1) := by decide +kernel
theorem dX6_copy_178 : decode cX6_copy 178 = .ok (.aload_n 0, 1) := by decide +kernel
theorem dX6_copy_179 : decode cX6_copy 179 = .ok (.getfield 38, 3) := by decide +kernel
theorem dX6_copy_182 : decode cX6_copy 182 = .ok (.iload 6, 2) := by decide +kernel
theorem dX6_copy_184 : decode cX6_copy 184 = .ok (.laload, 1) := by decide +kernel
theorem dX6_copy_185 : decode cX6_copy 185 = .ok (.lastore, 1) := by decide +kernel
theorem dX6_copy_186 : decode cX6_copy 186 = .ok (.iinc 6 1, 3) := by decide +kernel
theorem dX6_copy_189 : decode cX6_copy 189 = .ok (.goto (-32), 3) := by decide +kernel
theorem dX6_copy_192 : decode cX6_copy 192 = .ok (.iload 5, 2) := by decide +kernel
theorem dX6_copy_194 : decode cX6_copy 194 = .ok (.ireturn, 1) := by decide +kernel
theorem dX6_lays_0 : decode cX6_lays 0 = .ok (.aload_n 0, 1) := by decide +kernel
theorem dX6_lays_1 : decode cX6_lays 1 = .ok (.iload_n 1, 1) := by decide +kernel
theorem dX6_lays_2 : decode cX6_lays 2 = .ok (.invokevirtual 290, 3) := by decide +kernel
theorem dX6_lays_5 : decode cX6_lays 5 = .ok (.istore_n 2, 1) := by decide +kernel
theorem dX6_lays_6 : decode cX6_lays 6 = .ok (.iload_n 2, 1) := by decide +kernel
theorem dX6_lays_7 : decode cX6_lays 7 = .ok (.ifCond .eq 9, 3) := by decide +kernel
theorem dX6_lays_10 : decode cX6_lays 10 = .ok (.aload_n 0, 1) := by decide +kernel
theorem dX6_lays_11 : decode cX6_lays 11 = .ok (.iload_n 2, 1) := by decide +kernel
theorem dX6_lays_12 : decode cX6_lays 12 = .ok (.invokevirtual 59, 3) := by decide +kernel
theorem dX6_lays_15 : decode cX6_lays 15 = .ok (.ireturn, 1) := by decide +kernel
theorem dX6_lays_16 : decode cX6_lays 16 = .ok (.iconst 0, 1) := by decide +kernel
theorem dX6_lays_17 : decode cX6_lays 17 = .ok (.istore_n 3, 1) := by decide +kernel
theorem dX6_lays_18 : decode cX6_lays 18 = .ok (.iconst 0, 1) := by decide +kernel
theorem dX6_lays_19 : decode cX6_lays 19 = .ok (.istore 4, 2) := by decide +kernel
theorem dX6_lays_21 : decode cX6_lays 21 = .ok (.iload 4, 2) := by decide +kernel
theorem dX6_lays_23 : decode cX6_lays 23 = .ok (.aload_n 0, 1) := by decide +kernel
theorem dX6_lays_24 : decode cX6_lays 24 = .ok (.getfield 31, 3) := by decide +kernel
theorem dX6_lays_27 : decode cX6_lays 27 = .ok (.iload_n 1, 1) := by decide +kernel
theorem dX6_lays_28 : decode cX6_lays 28 = .ok (.iaload, 1) := by decide +kernel
theorem dX6_lays_29 : decode cX6_lays 29 = .ok (.if_icmp .ge 93, 3) := by decide +kernel
theorem dX6_lays_32 : decode cX6_lays 32 = .ok (.iload 4, 2) := by decide +kernel
theorem dX6_lays_34 : decode cX6_lays 34 = .ok (.aload_n 0, 1) := by decide +kernel
theorem dX6_lays_35 : decode cX6_lays 35 = .ok (.getfield 7, 3) := by decide +kernel
theorem dX6_lays_38 : decode cX6_lays 38 = .ok (.iconst 1, 1) := by decide +kernel
theorem dX6_lays_39 : decode cX6_lays 39 = .ok (.iaload, 1) := by decide +kernel
theorem dX6_lays_40 : decode cX6_lays 40 = .ok (.if_icmp .ge 82, 3) := by decide +kernel
theorem dX6_lays_43 : decode cX6_lays 43 = .ok (.aload_n 0, 1) := by decide +kernel
theorem dX6_lays_44 : decode cX6_lays 44 = .ok (.getfield 34, 3) := by decide +kernel
theorem dX6_lays_47 : decode cX6_lays 47 = .ok (.bipush 40, 2) := by decide +kernel
theorem dX6_lays_49 : decode cX6_lays 49 = .ok (.iload_n 1, 1) := by decide +kernel
theorem dX6_lays_50 : decode cX6_lays 50 = .ok (.imul, 1) := by decide +kernel
theorem dX6_lays_51 : decode cX6_lays 51 = .ok (.iload 4, 2) := by decide +kernel
theorem dX6_lays_53 : decode cX6_lays 53 = .ok (.iadd, 1) := by decide +kernel
theorem dX6_lays_54 : decode cX6_lays 54 = .ok (.laload, 1) := by decide +kernel
theorem dX6_lays_55 : decode cX6_lays 55 = .ok (.lconst 0, 1) := by decide +kernel
theorem dX6_lays_56 : decode cX6_lays 56 = .ok (.ldc2_w 76, 3) := by decide +kernel
theorem dX6_lays_59 : decode cX6_lays 59 = .ok (.invokestatic 42, 3) := by decide +kernel
theorem dX6_lays_62 : decode cX6_lays 62 = .ok (.istore 5, 2) := by decide +kernel
theorem dX6_lays_64 : decode cX6_lays 64 = .ok (.aload_n 0, 1) := by decide +kernel
theorem dX6_lays_65 : decode cX6_lays 65 = .ok (.getfield 7, 3) := by decide +kernel
theorem dX6_lays_68 : decode cX6_lays 68 = .ok (.iload 4, 2) := by decide +kernel
theorem dX6_lays_70 : decode cX6_lays 70 = .ok (.iconst 0, 1) := by decide +kernel
theorem dX6_lays_71 : decode cX6_lays 71 = .ok (.invokestatic 52, 3) := by decide +kernel
theorem dX6_lays_74 : decode cX6_lays 74 = .ok (.iload 5, 2) := by decide +kernel
theorem dX6_lays_76 : decode cX6_lays 76 = .ok (.ifCond .eq 19, 3) := by decide +kernel
theorem dX6_lays_79 : decode cX6_lays 79 = .ok (.aload_n 0, 1) := by decide +kernel
theorem dX6_lays_80 : decode cX6_lays 80 = .ok (.getfield 34, 3) := by decide +kernel
theorem dX6_lays_83 : decode cX6_lays 83 = .ok (.bipush 40, 2) := by decide +kernel
theorem dX6_lays_85 : decode cX6_lays 85 = .ok (.iload_n 1, 1) := by decide +kernel
theorem dX6_lays_86 : decode cX6_lays 86 = .ok (.imul, 1) := by decide +kernel
theorem dX6_lays_87 : decode cX6_lays 87 = .ok (.iload 4, 2) := by decide +kernel
theorem dX6_lays_89 : decode cX6_lays 89 = .ok (.iadd, 1) := by decide +kernel
theorem dX6_lays_90 : decode cX6_lays 90 = .ok (.laload, 1) := by decide +kernel
theorem dX6_lays_91 : decode cX6_lays 91 = .ok (.l2i, 1) := by decide +kernel
theorem dX6_lays_92 : decode cX6_lays 92 = .ok (.goto 10, 3) := by decide +kernel
theorem dX6_lays_95 : decode cX6_lays 95 = .ok (.aload_n 0, 1) := by decide +kernel
theorem dX6_lays_96 : decode cX6_lays 96 = .ok (.iload 4, 2) := by decide +kernel
theorem dX6_lays_98 : decode cX6_lays 98 = .ok (.iconst 0, 1) := by decide +kernel
theorem dX6_lays_99 : decode cX6_lays 99 = .ok (.invokevirtual 118, 3) := by decide +kernel
theorem dX6_lays_102 : decode cX6_lays 102 = .ok (.iastore, 1) := by decide +kernel
theorem dX6_lays_103 : decode cX6_lays 103 = .ok (.iload_n 3, 1) := by decide +kernel
theorem dX6_lays_104 : decode cX6_lays 104 = .ok (.iload 5, 2) := by decide +kernel
theorem dX6_lays_106 : decode cX6_lays 106 = .ok (.ifCond .eq 7, 3) := by decide +kernel
theorem dX6_lays_109 : decode cX6_lays 109 = .ok (.iconst 1, 1) := by decide +kernel
theorem dX6_lays_110 : decode cX6_lays 110 = .ok (.goto 4, 3) := by decide +kernel
theorem dX6_lays_113 : decode cX6_lays 113 = .ok (.iconst 0, 1) := by decide +kernel
theorem dX6_lays_114 : decode cX6_lays 114 = .ok (.iadd, 1) := by decide +kernel
theorem dX6_lays_115 : decode cX6_lays 115 = .ok (.istore_n 3, 1) := by decide +kernel
theorem dX6_lays_116 : decode cX6_lays 116 = .ok (.iinc 4 1, 3) := by decide +kernel
theorem dX6_lays_119 : decode cX6_lays 119 = .ok (.goto (-98), 3) := by decide +kernel
theorem dX6_lays_122 : decode cX6_lays 122 = .ok (.iload_n 3, 1) := by decide +kernel
theorem dX6_lays_123 : decode cX6_lays 123 = .ok (.ireturn, 1) := by decide +kernel
theorem dX6_wrongBook_0 : decode cX6_wrongBook 0 = .ok (.aload_n 0, 1) := by decide +kernel
theorem dX6_wrongBook_1 : decode cX6_wrongBook 1 = .ok (.iload_n 1, 1) := by decide +kernel
theorem dX6_wrongBook_2 : decode cX6_wrongBook 2 = .ok (.invokevirtual 290, 3) := by decide +kernel
theorem dX6_wrongBook_5 : decode cX6_wrongBook 5 = .ok (.istore_n 3, 1) := by decide +kernel
theorem dX6_wrongBook_6 : decode cX6_wrongBook 6 = .ok (.iload_n 3, 1) := by decide +kernel
theorem dX6_wrongBook_7 : decode cX6_wrongBook 7 = .ok (.ifCond .eq 7, 3) := by decide +kernel
theorem dX6_wrongBook_10 : decode cX6_wrongBook 10 = .ok (.iload_n 3, 1) := by decide +kernel
theorem dX6_wrongBook_11 : decode cX6_wrongBook 11 = .ok (.goto 17, 3) := by decide +kernel
theorem dX6_wrongBook_14 : decode cX6_wrongBook 14 = .ok (.aload_n 0, 1) := by decide +kernel
theorem dX6_wrongBook_15 : decode cX6_wrongBook 15 = .ok (.iload_n 2, 1) := by decide +kernel
theorem dX6_wrongBook_16 : decode cX6_wrongBook 16 = .ok (.invokevirtual 113, 3) := by decide +kernel
theorem dX6_wrongBook_19 : decode cX6_wrongBook 19 = .ok (.ifCond .eq 7, 3) := by decide +kernel
theorem dX6_wrongBook_22 : decode cX6_wrongBook 22 = .ok (.iconst 0, 1) := by decide +kernel
theorem dX6_wrongBook_23 : decode cX6_wrongBook 23 = .ok (.goto 5, 3) := by decide +kernel
theorem dX6_wrongBook_26 : decode cX6_wrongBook 26 = .ok (.ldc 41, 2) := by decide +kernel
theorem dX6_wrongBook_28 : decode cX6_wrongBook 28 = .ok (.ireturn, 1) := by decide +kernel
theorem dX6_book_0 : decode cX6_book 0 = .ok (.aload_n 0, 1) := by decide +kernel
theorem dX6_book_1 : decode cX6_book 1 = .ok (.iload_n 1, 1) := by decide +kernel
theorem dX6_book_2 : decode cX6_book 2 = .ok (.iload_n 2, 1) := by decide +kernel
theorem dX6_book_3 : decode cX6_book 3 = .ok (.invokevirtual 297, 3) := by decide +kernel
theorem dX6_book_6 : decode cX6_book 6 = .ok (.istore_n 3, 1) := by decide +kernel
theorem dX6_book_7 : decode cX6_book 7 = .ok (.iload_n 3, 1) := by decide +kernel
theorem dX6_book_8 : decode cX6_book 8 = .ok (.ifCond .eq 9, 3) := by decide +kernel
theorem dX6_book_11 : decode cX6_book 11 = .ok (.aload_n 0, 1) := by decide +kernel
theorem dX6_book_12 : decode cX6_book 12 = .ok (.iload_n 3, 1) := by decide +kernel
theorem dX6_book_13 : decode cX6_book 13 = .ok (.invokevirtual 59, 3) := by decide +kernel
theorem dX6_book_16 : decode cX6_book 16 = .ok (.ireturn, 1) := by decide +kernel
theorem dX6_book_17 : decode cX6_book 17 = .ok (.aload_n 0, 1) := by decide +kernel
theorem dX6_book_18 : decode cX6_book 18 = .ok (.invokevirtual 149, 3) := by decide +kernel
theorem dX6_book_21 : decode cX6_book 21 = .ok (.iconst 0, 1) := by decide +kernel
theorem dX6_book_22 : decode cX6_book 22 = .ok (.istore 4, 2) := by decide +kernel
theorem dX6_book_24 : decode cX6_book 24 = .ok (.iload 4, 2) := by decide +kernel
theorem dX6_book_26 : decode cX6_book 26 = .ok (.aload_n 0, 1) := by decide +kernel
theorem dX6_book_27 : decode cX6_book 27 = .ok (.getfield 31, 3) := by decide +kernel
theorem dX6_book_30 : decode cX6_book 30 = .ok (.iload_n 1, 1) := by decide +kernel
theorem dX6_book_31 : decode cX6_book 31 = .ok (.iaload, 1) := by decide +kernel
theorem dX6_book_32 : decode cX6_book 32 = .ok (.if_icmp .ge 41, 3) := by decide +kernel
theorem dX6_book_35 : decode cX6_book 35 = .ok (.aload_n 0, 1) := by decide +kernel
theorem dX6_book_36 : decode cX6_book 36 = .ok (.getfield 34, 3) := by decide +kernel
theorem dX6_book_39 : decode cX6_book 39 = .ok (.bipush 40, 2) := by decide +kernel
theorem dX6_book_41 : decode cX6_book 41 = .ok (.iload_n 1, 1) := by decide +kernel
theorem dX6_book_42 : decode cX6_book 42 = .ok (.imul, 1) := by decide +kernel
theorem dX6_book_43 : decode cX6_book 43 = .ok (.iload 4, 2) := by decide +kernel
theorem dX6_book_45 : decode cX6_book 45 = .ok (.iadd, 1) := by decide +kernel
theorem dX6_book_46 : decode cX6_book 46 = .ok (.aload_n 0, 1) := by decide +kernel
theorem dX6_book_47 : decode cX6_book 47 = .ok (.getfield 28, 3) := by decide +kernel
theorem dX6_book_50 : decode cX6_book 50 = .ok (.iload_n 1, 1) := by decide +kernel
theorem dX6_book_51 : decode cX6_book 51 = .ok (.iaload, 1) := by decide +kernel
theorem dX6_book_52 : decode cX6_book 52 = .ok (.aload_n 0, 1) := by decide +kernel
theorem dX6_book_53 : decode cX6_book 53 = .ok (.iload_n 2, 1) := by decide +kernel
theorem dX6_book_54 : decode cX6_book 54 = .ok (.iconst 0, 1) := by decide +kernel
theorem dX6_book_55 : decode cX6_book 55 = .ok (.invokevirtual 118, 3) := by decide +kernel
theorem dX6_book_58 : decode cX6_book 58 = .ok (.i2l, 1) := by decide +kernel
theorem dX6_book_59 : decode cX6_book 59 = .ok (.invokestatic 293, 3) := by decide +kernel
theorem dX6_book_62 : decode cX6_book 62 = .ok (.lastore, 1) := by decide +kernel
theorem dX6_book_63 : decode cX6_book 63 = .ok (.aload_n 0, 1) := by decide +kernel
theorem dX6_book_64 : decode cX6_book 64 = .ok (.invokevirtual 130, 3) := by decide +kernel
theorem dX6_book_67 : decode cX6_book 67 = .ok (.iinc 4 1, 3) := by decide +kernel
theorem dX6_book_70 : decode cX6_book 70 = .ok (.goto (-46), 3) := by decide +kernel
theorem dX6_book_73 : decode cX6_book 73 = .ok (.aload_n 0, 1) := by decide +kernel
theorem dX6_book_74 : decode cX6_book 74 = .ok (.aload_n 0, 1) := by decide +kernel
theorem dX6_book_75 : decode cX6_book 75 = .ok (.getfield 31, 3) := by decide +kernel
theorem dX6_book_78 : decode cX6_book 78 = .ok (.iload_n 1, 1) := by decide +kernel
theorem dX6_book_79 : decode cX6_book 79 = .ok (.iaload, 1) := by decide +kernel
theorem dX6_book_80 : decode cX6_book 80 = .ok (.invokevirtual 152, 3) := by decide +kernel
theorem dX6_book_83 : decode cX6_book 83 = .ok (.ireturn, 1) := by decide +kernel
theorem dX6_isBook_0 : decode cX6_isBook 0 = .ok (.iconst 0, 1) := by decide +kernel
theorem dX6_isBook_1 : decode cX6_isBook 1 = .ok (.istore_n 3, 1) := by decide +kernel
theorem dX6_isBook_2 : decode cX6_isBook 2 = .ok (.iload_n 3, 1) := by decide +kernel
theorem dX6_isBook_3 : decode cX6_isBook 3 = .ok (.aload_n 0, 1) := by decide +kernel
theorem dX6_isBook_4 : decode cX6_isBook 4 = .ok (.getfield 31, 3) := by decide +kernel
theorem dX6_isBook_7 : decode cX6_isBook 7 = .ok (.iload_n 1, 1) := by decide +kernel
theorem dX6_isBook_8 : decode cX6_isBook 8 = .ok (.iaload, 1) := by decide +kernel
theorem dX6_isBook_9 : decode cX6_isBook 9 = .ok (.if_icmp .ge 37, 3) := by decide +kernel
theorem dX6_isBook_12 : decode cX6_isBook 12 = .ok (.aload_n 0, 1) := by decide +kernel
theorem dX6_isBook_13 : decode cX6_isBook 13 = .ok (.getfield 34, 3) := by decide +kernel
theorem dX6_isBook_16 : decode cX6_isBook 16 = .ok (.bipush 40, 2) := by decide +kernel
theorem dX6_isBook_18 : decode cX6_isBook 18 = .ok (.iload_n 1, 1) := by decide +kernel
theorem dX6_isBook_19 : decode cX6_isBook 19 = .ok (.imul, 1) := by decide +kernel
theorem dX6_isBook_20 : decode cX6_isBook 20 = .ok (.iload_n 3, 1) := by decide +kernel
theorem dX6_isBook_21 : decode cX6_isBook 21 = .ok (.iadd, 1) := by decide +kernel
theorem dX6_isBook_22 : decode cX6_isBook 22 = .ok (.laload, 1) := by decide +kernel
theorem dX6_isBook_23 : decode cX6_isBook 23 = .ok (.aload_n 0, 1) := by decide +kernel
theorem dX6_isBook_24 : decode cX6_isBook 24 = .ok (.iload_n 2, 1) := by decide +kernel
theorem dX6_isBook_25 : decode cX6_isBook 25 = .ok (.iconst 0, 1) := by decide +kernel
theorem dX6_isBook_26 : decode cX6_isBook 26 = .ok (.invokevirtual 118, 3) := by decide +kernel
theorem dX6_isBook_29 : decode cX6_isBook 29 = .ok (.i2l, 1) := by decide +kernel
theorem dX6_isBook_30 : decode cX6_isBook 30 = .ok (.lcmp, 1) := by decide +kernel
theorem dX6_isBook_31 : decode cX6_isBook 31 = .ok (.ifCond .eq 5, 3) := by decide +kernel
theorem dX6_isBook_34 : decode cX6_isBook 34 = .ok (.iconst 0, 1) := by decide +kernel
theorem dX6_isBook_35 : decode cX6_isBook 35 = .ok (.ireturn, 1) := by decide +kernel
theorem dX6_isBook_36 : decode cX6_isBook 36 = .ok (.aload_n 0, 1) := by decide +kernel
theorem dX6_isBook_37 : decode cX6_isBook 37 = .ok (.invokevirtual 130, 3) := by decide +kernel
theorem dX6_isBook_40 : decode cX6_isBook 40 = .ok (.iinc 3 1, 3) := by decide +kernel
theorem dX6_isBook_43 : decode cX6_isBook 43 = .ok (.goto (-41), 3) := by decide +kernel
theorem dX6_isBook_46 : decode cX6_isBook 46 = .ok (.iconst 1, 1) := by decide +kernel
theorem dX6_isBook_47 : decode cX6_isBook 47 = .ok (.ireturn, 1) := by decide +kernel
theorem dX6_read_0 : decode cX6_read 0 = .ok (.aload_n 0, 1) := by decide +kernel
theorem dX6_read_1 : decode cX6_read 1 = .ok (.iload_n 1, 1) := by decide +kernel
theorem dX6_read_2 : decode cX6_read 2 = .ok (.iload_n 2, 1) := by decide +kernel
theorem dX6_read_3 : decode cX6_read 3 = .ok (.invokevirtual 297, 3) := by decide +kernel
theorem dX6_read_6 : decode cX6_read 6 = .ok (.istore_n 3, 1) := by decide +kernel
theorem dX6_read_7 : decode cX6_read 7 = .ok (.iload_n 3, 1) := by decide +kernel
theorem dX6_read_8 : decode cX6_read 8 = .ok (.ifCond .eq 9, 3) := by decide +kernel
theorem dX6_read_11 : decode cX6_read 11 = .ok (.aload_n 0, 1) := by decide +kernel
theorem dX6_read_12 : decode cX6_read 12 = .ok (.iload_n 3, 1) := by decide +kernel
theorem dX6_read_13 : decode cX6_read 13 = .ok (.invokevirtual 59, 3) := by decide +kernel
theorem dX6_read_16 : decode cX6_read 16 = .ok (.ireturn, 1) := by decide +kernel
theorem dX6_read_17 : decode cX6_read 17 = .ok (.aload_n 0, 1) := by decide +kernel
theorem dX6_read_18 : decode cX6_read 18 = .ok (.invokevirtual 149, 3) := by decide +kernel
theorem dX6_read_21 : decode cX6_read 21 = .ok (.iconst 0, 1) := by decide +kernel
theorem dX6_read_22 : decode cX6_read 22 = .ok (.istore 4, 2) := by decide +kernel
theorem dX6_read_24 : decode cX6_read 24 = .ok (.iconst 0, 1) := by decide +kernel
theorem dX6_read_25 : decode cX6_read 25 = .ok (.istore 5, 2) := by decide +kernel
theorem dX6_read_27 : decode cX6_read 27 = .ok (.iload 5, 2) := by decide +kernel
theorem dX6_read_29 : decode cX6_read 29 = .ok (.aload_n 0, 1) := by decide +kernel
theorem dX6_read_30 : decode cX6_read 30 = .ok (.getfield 7, 3) := by decide +kernel
theorem dX6_read_33 : decode cX6_read 33 = .ok (.iconst 0, 1) := by decide +kernel
theorem dX6_read_34 : decode cX6_read 34 = .ok (.iaload, 1) := by decide +kernel
theorem dX6_read_35 : decode cX6_read 35 = .ok (.if_icmp .ge 72, 3) := by decide +kernel
theorem dX6_read_38 : decode cX6_read 38 = .ok (.iconst (-1), 1) := by decide +kernel
theorem dX6_read_39 : decode cX6_read 39 = .ok (.istore 6, 2) := by decide +kernel
theorem dX6_read_41 : decode cX6_read 41 = .ok (.iload 6, 2) := by decide +kernel
theorem dX6_read_43 : decode cX6_read 43 = .ok (.aload_n 0, 1) := by decide +kernel
theorem dX6_read_44 : decode cX6_read 44 = .ok (.getfield 7, 3) := by decide +kernel
theorem dX6_read_47 : decode cX6_read 47 = .ok (.iconst 0, 1) := by decide +kernel
theorem dX6_read_48 : decode cX6_read 48 = .ok (.iaload, 1) := by decide +kernel
theorem dX6_read_49 : decode cX6_read 49 = .ok (.if_icmp .ge 52, 3) := by decide +kernel
theorem dX6_read_52 : decode cX6_read 52 = .ok (.aload_n 0, 1) := by decide +kernel
theorem dX6_read_53 : decode cX6_read 53 = .ok (.getfield 7, 3) := by decide +kernel
theorem dX6_read_56 : decode cX6_read 56 = .ok (.iconst 4, 1) := by decide +kernel
theorem dX6_read_57 : decode cX6_read 57 = .ok (.iload 5, 2) := by decide +kernel
theorem dX6_read_59 : decode cX6_read 59 = .ok (.iastore, 1) := by decide +kernel
theorem dX6_read_60 : decode cX6_read 60 = .ok (.aload_n 0, 1) := by decide +kernel
theorem dX6_read_61 : decode cX6_read 61 = .ok (.getfield 7, 3) := by decide +kernel
theorem dX6_read_64 : decode cX6_read 64 = .ok (.iload_n 2, 1) := by decide +kernel
theorem dX6_read_65 : decode cX6_read 65 = .ok (.iconst 1, 1) := by decide +kernel
theorem dX6_read_66 : decode cX6_read 66 = .ok (.invokestatic 52, 3) := by decide +kernel
theorem dX6_read_69 : decode cX6_read 69 = .ok (.iload 6, 2) := by decide +kernel
theorem dX6_read_71 : decode cX6_read 71 = .ok (.iastore, 1) := by decide +kernel
theorem dX6_read_72 : decode cX6_read 72 = .ok (.aload_n 0, 1) := by decide +kernel
theorem dX6_read_73 : decode cX6_read 73 = .ok (.iload 4, 2) := by decide +kernel
theorem dX6_read_75 : decode cX6_read 75 = .ok (.aload_n 0, 1) := by decide +kernel
theorem dX6_read_76 : decode cX6_read 76 = .ok (.iload_n 1, 1) := by decide +kernel
theorem dX6_read_77 : decode cX6_read 77 = .ok (.iload_n 2, 1) := by decide +kernel
theorem dX6_read_78 : decode cX6_read 78 = .ok (.invokevirtual 300, 3) := by decide +kernel
theorem dX6_read_81 : decode cX6_read 81 = .ok (.ifCond .eq 7, 3) := by decide +kernel
theorem dX6_read_84 : decode cX6_read 84 = .ok (.iconst 1, 1) := by decide +kernel
theorem dX6_read_85 : decode cX6_read 85 = .ok (.goto 4, 3) := by decide +kernel
theorem dX6_read_88 : decode cX6_read 88 = .ok (.iconst 0, 1) := by decide +kernel
theorem dX6_read_89 : decode cX6_read 89 = .ok (.iadd, 1) := by decide +kernel
theorem dX6_read_90 : decode cX6_read 90 = .ok (.invokevirtual 152, 3) := by decide +kernel
theorem dX6_read_93 : decode cX6_read 93 = .ok (.istore 4, 2) := by decide +kernel
theorem dX6_read_95 : decode cX6_read 95 = .ok (.iinc 6 1, 3) := by decide +kernel
theorem dX6_read_98 : decode cX6_read 98 = .ok (.goto (-57), 3) := by decide +kernel
theorem dX6_read_101 : decode cX6_read 101 = .ok (.iinc 5 1, 3) := by decide +kernel
theorem dX6_read_104 : decode cX6_read 104 = .ok (.goto (-77), 3) := by decide +kernel
theorem dX6_read_107 : decode cX6_read 107 = .ok (.iload 4, 2) := by decide +kernel
theorem dX6_read_109 : decode cX6_read 109 = .ok (.ireturn, 1) := by decide +kernel
theorem dX6_image_0 : decode cX6_image 0 = .ok (.iconst 0, 1) := by decide +kernel
theorem dX6_image_1 : decode cX6_image 1 = .ok (.istore_n 1, 1) := by decide +kernel
theorem dX6_image_2 : decode cX6_image 2 = .ok (.iload_n 1, 1) := by decide +kernel
theorem dX6_image_3 : decode cX6_image 3 = .ok (.bipush 61, 2) := by decide +kernel
theorem dX6_image_5 : decode cX6_image 5 = .ok (.if_icmp .ge 21, 3) := by decide +kernel
theorem dX6_image_8 : decode cX6_image 8 = .ok (.aload_n 0, 1) := by decide +kernel
theorem dX6_image_9 : decode cX6_image 9 = .ok (.getfield 13, 3) := by decide +kernel
theorem dX6_image_12 : decode cX6_image 12 = .ok (.iload_n 1, 1) := by decide +kernel
theorem dX6_image_13 : decode cX6_image 13 = .ok (.aload_n 0, 1) := by decide +kernel
theorem dX6_image_14 : decode cX6_image 14 = .ok (.getfield 7, 3) := by decide +kernel
theorem dX6_image_17 : decode cX6_image 17 = .ok (.iload_n 1, 1) := by decide +kernel
theorem dX6_image_18 : decode cX6_image 18 = .ok (.iaload, 1) := by decide +kernel
theorem dX6_image_19 : decode cX6_image 19 = .ok (.iastore, 1) := by decide +kernel
theorem dX6_image_20 : decode cX6_image 20 = .ok (.iinc 1 1, 3) := by decide +kernel
theorem dX6_image_23 : decode cX6_image 23 = .ok (.goto (-21), 3) := by decide +kernel
theorem dX6_image_26 : decode cX6_image 26 = .ok (.aload_n 0, 1) := by decide +kernel
theorem dX6_image_27 : decode cX6_image 27 = .ok (.iconst 1, 1) := by decide +kernel
theorem dX6_image_28 : decode cX6_image 28 = .ok (.putfield 303, 3) := by decide +kernel
theorem dX6_image_31 : decode cX6_image 31 = .ok (.iconst 1, 1) := by decide +kernel
theorem dX6_image_32 : decode cX6_image 32 = .ok (.ireturn, 1) := by decide +kernel
theorem dX6_undo_0 : decode cX6_undo 0 = .ok (.aload_n 0, 1) := by decide +kernel
theorem dX6_undo_1 : decode cX6_undo 1 = .ok (.getfield 303, 3) := by decide +kernel
theorem dX6_undo_4 : decode cX6_undo 4 = .ok (.ifCond .ne 10, 3) := by decide +kernel
theorem dX6_undo_7 : decode cX6_undo 7 = .ok (.aload_n 0, 1) := by decide +kernel
theorem dX6_undo_8 : decode cX6_undo 8 = .ok (.ldc 158, 2) := by decide +kernel
theorem dX6_undo_10 : decode cX6_undo 10 = .ok (.invokevirtual 59, 3) := by decide +kernel
theorem dX6_undo_13 : decode cX6_undo 13 = .ok (.ireturn, 1) := by decide +kernel
theorem dX6_undo_14 : decode cX6_undo 14 = .ok (.iconst 0, 1) := by decide +kernel
theorem dX6_undo_15 : decode cX6_undo 15 = .ok (.istore_n 1, 1) := by decide +kernel
theorem dX6_undo_16 : decode cX6_undo 16 = .ok (.iload_n 1, 1) := by decide +kernel
theorem dX6_undo_17 : decode cX6_undo 17 = .ok (.bipush 61, 2) := by decide +kernel
theorem dX6_undo_19 : decode cX6_undo 19 = .ok (.if_icmp .ge 21, 3) := by decide +kernel
theorem dX6_undo_22 : decode cX6_undo 22 = .ok (.aload_n 0, 1) := by decide +kernel
theorem dX6_undo_23 : decode cX6_undo 23 = .ok (.getfield 7, 3) := by decide +kernel
theorem dX6_undo_26 : decode cX6_undo 26 = .ok (.iload_n 1, 1) := by decide +kernel
theorem dX6_undo_27 : decode cX6_undo 27 = .ok (.aload_n 0, 1) := by decide +kernel
theorem dX6_undo_28 : decode cX6_undo 28 = .ok (.getfield 13, 3) := by decide +kernel
theorem dX6_undo_31 : decode cX6_undo 31 = .ok (.iload_n 1, 1) := by decide +kernel
theorem dX6_undo_32 : decode cX6_undo 32 = .ok (.iaload, 1) := by decide +kernel
theorem dX6_undo_33 : decode cX6_undo 33 = .ok (.iastore, 1) := by decide +kernel
theorem dX6_undo_34 : decode cX6_undo 34 = .ok (.iinc 1 1, 3) := by decide +kernel
theorem dX6_undo_37 : decode cX6_undo 37 = .ok (.goto (-21), 3) := by decide +kernel
theorem dX6_undo_40 : decode cX6_undo 40 = .ok (.aload_n 0, 1) := by decide +kernel
theorem dX6_undo_41 : decode cX6_undo 41 = .ok (.getfield 7, 3) := by decide +kernel
theorem dX6_undo_44 : decode cX6_undo 44 = .ok (.iconst 0, 1) := by decide +kernel
theorem dX6_undo_45 : decode cX6_undo 45 = .ok (.iaload, 1) := by decide +kernel
theorem dX6_undo_46 : decode cX6_undo 46 = .ok (.ireturn, 1) := by decide +kernel
theorem dX6_tear_0 : decode cX6_tear 0 = .ok (.aload_n 0, 1) := by decide +kernel
theorem dX6_tear_1 : decode cX6_tear 1 = .ok (.getfield 303, 3) := by decide +kernel
theorem dX6_tear_4 : decode cX6_tear 4 = .ok (.ifCond .eq 7, 3) := by decide +kernel
theorem dX6_tear_7 : decode cX6_tear 7 = .ok (.iconst 1, 1) := by decide +kernel
theorem dX6_tear_8 : decode cX6_tear 8 = .ok (.goto 4, 3) := by decide +kernel
theorem dX6_tear_11 : decode cX6_tear 11 = .ok (.iconst 0, 1) := by decide +kernel
theorem dX6_tear_12 : decode cX6_tear 12 = .ok (.istore_n 1, 1) := by decide +kernel
theorem dX6_tear_13 : decode cX6_tear 13 = .ok (.aload_n 0, 1) := by decide +kernel
theorem dX6_tear_14 : decode cX6_tear 14 = .ok (.iconst 0, 1) := by decide +kernel
theorem dX6_tear_15 : decode cX6_tear 15 = .ok (.putfield 303, 3) := by decide +kernel
theorem dX6_tear_18 : decode cX6_tear 18 = .ok (.iload_n 1, 1) := by decide +kernel
theorem dX6_tear_19 : decode cX6_tear 19 = .ok (.ireturn, 1) := by decide +kernel
theorem dX6_count_0 : decode cX6_count 0 = .ok (.iload_n 1, 1) := by decide +kernel
theorem dX6_count_1 : decode cX6_count 1 = .ok (.tableswitch 56 0 3 #[31, 38, 43, 50], 31) := by decide +kernel
theorem dX6_count_32 : decode cX6_count 32 = .ok (.aload_n 0, 1) := by decide +kernel
theorem dX6_count_33 : decode cX6_count 33 = .ok (.getfield 7, 3) := by decide +kernel
theorem dX6_count_36 : decode cX6_count 36 = .ok (.iconst 0, 1) := by decide +kernel
theorem dX6_count_37 : decode cX6_count 37 = .ok (.iaload, 1) := by decide +kernel
theorem dX6_count_38 : decode cX6_count 38 = .ok (.ireturn, 1) := by decide +kernel
theorem dX6_count_39 : decode cX6_count 39 = .ok (.aload_n 0, 1) := by decide +kernel
theorem dX6_count_40 : decode cX6_count 40 = .ok (.getfield 182, 3) := by decide +kernel
theorem dX6_count_43 : decode cX6_count 43 = .ok (.ireturn, 1) := by decide +kernel
theorem dX6_count_44 : decode cX6_count 44 = .ok (.aload_n 0, 1) := by decide +kernel
theorem dX6_count_45 : decode cX6_count 45 = .ok (.getfield 7, 3) := by decide +kernel
theorem dX6_count_48 : decode cX6_count 48 = .ok (.iconst 1, 1) := by decide +kernel
theorem dX6_count_49 : decode cX6_count 49 = .ok (.iaload, 1) := by decide +kernel
theorem dX6_count_50 : decode cX6_count 50 = .ok (.ireturn, 1) := by decide +kernel
theorem dX6_count_51 : decode cX6_count 51 = .ok (.aload_n 0, 1) := by decide +kernel
theorem dX6_count_52 : decode cX6_count 52 = .ok (.iconst 2, 1) := by decide +kernel
theorem dX6_count_53 : decode cX6_count 53 = .ok (.invokevirtual 146, 3) := by decide +kernel
theorem dX6_count_56 : decode cX6_count 56 = .ok (.ireturn, 1) := by decide +kernel
theorem dX6_count_57 : decode cX6_count 57 = .ok (.aload_n 0, 1) := by decide +kernel
theorem dX6_count_58 : decode cX6_count 58 = .ok (.ldc 41, 2) := by decide +kernel
theorem dX6_count_60 : decode cX6_count 60 = .ok (.invokevirtual 59, 3) := by decide +kernel
theorem dX6_count_63 : decode cX6_count 63 = .ok (.ireturn, 1) := by decide +kernel
theorem dX6_status_0 : decode cX6_status 0 = .ok (.iload_n 1, 1) := by decide +kernel
theorem dX6_status_1 : decode cX6_status 1 = .ok (.i2l, 1) := by decide +kernel
theorem dX6_status_2 : decode cX6_status 2 = .ok (.ldc2_w 306, 3) := by decide +kernel
theorem dX6_status_5 : decode cX6_status 5 = .ok (.ldc2_w 308, 3) := by decide +kernel
theorem dX6_status_8 : decode cX6_status 8 = .ok (.invokestatic 42, 3) := by decide +kernel
theorem dX6_status_11 : decode cX6_status 11 = .ok (.ifCond .ne 10, 3) := by decide +kernel
theorem dX6_status_14 : decode cX6_status 14 = .ok (.aload_n 0, 1) := by decide +kernel
theorem dX6_status_15 : decode cX6_status 15 = .ok (.ldc 41, 2) := by decide +kernel
theorem dX6_status_17 : decode cX6_status 17 = .ok (.invokevirtual 59, 3) := by decide +kernel
theorem dX6_status_20 : decode cX6_status 20 = .ok (.ireturn, 1) := by decide +kernel
theorem dX6_status_21 : decode cX6_status 21 = .ok (.iconst 0, 1) := by decide +kernel
theorem dX6_status_22 : decode cX6_status 22 = .ok (.istore_n 2, 1) := by decide +kernel
theorem dX6_status_23 : decode cX6_status 23 = .ok (.iconst 0, 1) := by decide +kernel
theorem dX6_status_24 : decode cX6_status 24 = .ok (.istore_n 3, 1) := by decide +kernel
theorem dX6_status_25 : decode cX6_status 25 = .ok (.iload_n 3, 1) := by decide +kernel
theorem dX6_status_26 : decode cX6_status 26 = .ok (.bipush 7, 2) := by decide +kernel
theorem dX6_status_28 : decode cX6_status 28 = .ok (.if_icmp .ge 31, 3) := by decide +kernel
theorem dX6_status_31 : decode cX6_status 31 = .ok (.iload_n 2, 1) := by decide +kernel
theorem dX6_status_32 : decode cX6_status 32 = .ok (.iload_n 1, 1) := by decide +kernel
theorem dX6_status_33 : decode cX6_status 33 = .ok (.ifCond .lt 8, 3) := by decide +kernel
theorem dX6_status_36 : decode cX6_status 36 = .ok (.iload_n 3, 1) := by decide +kernel
theorem dX6_status_37 : decode cX6_status 37 = .ok (.iload_n 1, 1) := by decide +kernel
theorem dX6_status_38 : decode cX6_status 38 = .ok (.if_icmp .ne 12, 3) := by decide +kernel
theorem dX6_status_41 : decode cX6_status 41 = .ok (.aload_n 0, 1) := by decide +kernel
theorem dX6_status_42 : decode cX6_status 42 = .ok (.getfield 22, 3) := by decide +kernel
theorem dX6_status_45 : decode cX6_status 45 = .ok (.iload_n 3, 1) := by decide +kernel
theorem dX6_status_46 : decode cX6_status 46 = .ok (.iaload, 1) := by decide +kernel
theorem dX6_status_47 : decode cX6_status 47 = .ok (.goto 4, 3) := by decide +kernel
theorem dX6_status_50 : decode cX6_status 50 = .ok (.iconst 0, 1) := by decide +kernel
theorem dX6_status_51 : decode cX6_status 51 = .ok (.iadd, 1) := by decide +kernel
theorem dX6_status_52 : decode cX6_status 52 = .ok (.istore_n 2, 1) := by decide +kernel
theorem dX6_status_53 : decode cX6_status 53 = .ok (.iinc 3 1, 3) := by decide +kernel
theorem dX6_status_56 : decode cX6_status 56 = .ok (.goto (-31), 3) := by decide +kernel
theorem dX6_status_59 : decode cX6_status 59 = .ok (.iload_n 2, 1) := by decide +kernel
theorem dX6_status_60 : decode cX6_status 60 = .ok (.ireturn, 1) := by decide +kernel
end
section
/-! printed: decode rows -/
theorem dL_law_0 : decode cL_law 0 = .ok (.new 7, 3) := by decide +kernel
theorem dL_law_3 : decode cL_law 3 = .ok (.dup, 1) := by decide +kernel
theorem dL_law_4 : decode cL_law 4 = .ok (.invokespecial 9, 3) := by decide +kernel
theorem dL_law_7 : decode cL_law 7 = .ok (.astore_n 1, 1) := by decide +kernel
theorem dL_law_8 : decode cL_law 8 = .ok (.new 10, 3) := by decide +kernel
theorem dL_law_11 : decode cL_law 11 = .ok (.dup, 1) := by decide +kernel
theorem dL_law_12 : decode cL_law 12 = .ok (.invokespecial 12, 3) := by decide +kernel
theorem dL_law_15 : decode cL_law 15 = .ok (.astore_n 2, 1) := by decide +kernel
theorem dL_law_16 : decode cL_law 16 = .ok (.iconst 0, 1) := by decide +kernel
theorem dL_law_17 : decode cL_law 17 = .ok (.istore_n 3, 1) := by decide +kernel
theorem dL_law_18 : decode cL_law 18 = .ok (.iload_n 3, 1) := by decide +kernel
theorem dL_law_19 : decode cL_law 19 = .ok (.aload_n 0, 1) := by decide +kernel
theorem dL_law_20 : decode cL_law 20 = .ok (.arraylength, 1) := by decide +kernel
theorem dL_law_21 : decode cL_law 21 = .ok (.bipush 6, 2) := by decide +kernel
theorem dL_law_23 : decode cL_law 23 = .ok (.isub, 1) := by decide +kernel
theorem dL_law_24 : decode cL_law 24 = .ok (.if_icmp .gt 1468, 3) := by decide +kernel
theorem dL_law_27 : decode cL_law 27 = .ok (.aload_n 0, 1) := by decide +kernel
theorem dL_law_28 : decode cL_law 28 = .ok (.iload_n 3, 1) := by decide +kernel
theorem dL_law_29 : decode cL_law 29 = .ok (.iaload, 1) := by decide +kernel
theorem dL_law_30 : decode cL_law 30 = .ok (.bipush 63, 2) := by decide +kernel
theorem dL_law_32 : decode cL_law 32 = .ok (.iand, 1) := by decide +kernel
theorem dL_law_33 : decode cL_law 33 = .ok (.tableswitch 1453 0 40 #[179, 202, 235, 278, 311, 344, 387, 420, 453, 486, 529, 562, 585, 608, 631, 674, 697, 720, 763, 806, 829, 882, 905, 928, 951, 984, 1017, 1040, 1073, 1086, 1099, 1142, 1216, 1279, 1302, 1335, 1368, 1381, 1394, 1407, 1430], 179) := by decide +kernel
theorem dL_law_212 : decode cL_law 212 = .ok (.aload_n 1, 1) := by decide +kernel
theorem dL_law_213 : decode cL_law 213 = .ok (.aload_n 0, 1) := by decide +kernel
theorem dL_law_214 : decode cL_law 214 = .ok (.iload_n 3, 1) := by decide +kernel
theorem dL_law_215 : decode cL_law 215 = .ok (.iconst 1, 1) := by decide +kernel
theorem dL_law_216 : decode cL_law 216 = .ok (.iadd, 1) := by decide +kernel
theorem dL_law_217 : decode cL_law 217 = .ok (.iaload, 1) := by decide +kernel
theorem dL_law_218 : decode cL_law 218 = .ok (.invokevirtual 13, 3) := by decide +kernel
theorem dL_law_221 : decode cL_law 221 = .ok (.aload_n 2, 1) := by decide +kernel
theorem dL_law_222 : decode cL_law 222 = .ok (.aload_n 0, 1) := by decide +kernel
theorem dL_law_223 : decode cL_law 223 = .ok (.iload_n 3, 1) := by decide +kernel
theorem dL_law_224 : decode cL_law 224 = .ok (.iconst 1, 1) := by decide +kernel
theorem dL_law_225 : decode cL_law 225 = .ok (.iadd, 1) := by decide +kernel
theorem dL_law_226 : decode cL_law 226 = .ok (.iaload, 1) := by decide +kernel
theorem dL_law_227 : decode cL_law 227 = .ok (.invokevirtual 17, 3) := by decide +kernel
theorem dL_law_230 : decode cL_law 230 = .ok (.if_icmp .eq 1256, 3) := by decide +kernel
theorem dL_law_233 : decode cL_law 233 = .ok (.iconst 0, 1) := by decide +kernel
theorem dL_law_234 : decode cL_law 234 = .ok (.ireturn, 1) := by decide +kernel
theorem dL_law_235 : decode cL_law 235 = .ok (.aload_n 1, 1) := by decide +kernel
theorem dL_law_236 : decode cL_law 236 = .ok (.aload_n 0, 1) := by decide +kernel
theorem dL_law_237 : decode cL_law 237 = .ok (.iload_n 3, 1) := by decide +kernel
theorem dL_law_238 : decode cL_law 238 = .ok (.iconst 1, 1) := by decide +kernel
theorem dL_law_239 : decode cL_law 239 = .ok (.iadd, 1) := by decide +kernel
theorem dL_law_240 : decode cL_law 240 = .ok (.iaload, 1) := by decide +kernel
theorem dL_law_241 : decode cL_law 241 = .ok (.aload_n 0, 1) := by decide +kernel
theorem dL_law_242 : decode cL_law 242 = .ok (.iload_n 3, 1) := by decide +kernel
theorem dL_law_243 : decode cL_law 243 = .ok (.iconst 2, 1) := by decide +kernel
theorem dL_law_244 : decode cL_law 244 = .ok (.iadd, 1) := by decide +kernel
theorem dL_law_245 : decode cL_law 245 = .ok (.iaload, 1) := by decide +kernel
theorem dL_law_246 : decode cL_law 246 = .ok (.invokevirtual 18, 3) := by decide +kernel
theorem dL_law_249 : decode cL_law 249 = .ok (.aload_n 2, 1) := by decide +kernel
theorem dL_law_250 : decode cL_law 250 = .ok (.aload_n 0, 1) := by decide +kernel
theorem dL_law_251 : decode cL_law 251 = .ok (.iload_n 3, 1) := by decide +kernel
theorem dL_law_252 : decode cL_law 252 = .ok (.iconst 1, 1) := by decide +kernel
theorem dL_law_253 : decode cL_law 253 = .ok (.iadd, 1) := by decide +kernel
theorem dL_law_254 : decode cL_law 254 = .ok (.iaload, 1) := by decide +kernel
theorem dL_law_255 : decode cL_law 255 = .ok (.aload_n 0, 1) := by decide +kernel
theorem dL_law_256 : decode cL_law 256 = .ok (.iload_n 3, 1) := by decide +kernel
theorem dL_law_257 : decode cL_law 257 = .ok (.iconst 2, 1) := by decide +kernel
theorem dL_law_258 : decode cL_law 258 = .ok (.iadd, 1) := by decide +kernel
theorem dL_law_259 : decode cL_law 259 = .ok (.iaload, 1) := by decide +kernel
theorem dL_law_260 : decode cL_law 260 = .ok (.invokevirtual 22, 3) := by decide +kernel
theorem dL_law_263 : decode cL_law 263 = .ok (.if_icmp .eq 1223, 3) := by decide +kernel
theorem dL_law_266 : decode cL_law 266 = .ok (.iconst 0, 1) := by decide +kernel
theorem dL_law_267 : decode cL_law 267 = .ok (.ireturn, 1) := by decide +kernel
theorem dL_law_268 : decode cL_law 268 = .ok (.aload_n 1, 1) := by decide +kernel
theorem dL_law_269 : decode cL_law 269 = .ok (.aload_n 0, 1) := by decide +kernel
theorem dL_law_270 : decode cL_law 270 = .ok (.iload_n 3, 1) := by decide +kernel
theorem dL_law_271 : decode cL_law 271 = .ok (.iconst 1, 1) := by decide +kernel
theorem dL_law_272 : decode cL_law 272 = .ok (.iadd, 1) := by decide +kernel
theorem dL_law_273 : decode cL_law 273 = .ok (.iaload, 1) := by decide +kernel
theorem dL_law_274 : decode cL_law 274 = .ok (.aload_n 0, 1) := by decide +kernel
theorem dL_law_275 : decode cL_law 275 = .ok (.iload_n 3, 1) := by decide +kernel
theorem dL_law_276 : decode cL_law 276 = .ok (.iconst 2, 1) := by decide +kernel
theorem dL_law_277 : decode cL_law 277 = .ok (.iadd, 1) := by decide +kernel
theorem dL_law_278 : decode cL_law 278 = .ok (.iaload, 1) := by decide +kernel
theorem dL_law_279 : decode cL_law 279 = .ok (.aload_n 0, 1) := by decide +kernel
theorem dL_law_280 : decode cL_law 280 = .ok (.iload_n 3, 1) := by decide +kernel
theorem dL_law_281 : decode cL_law 281 = .ok (.iconst 3, 1) := by decide +kernel
theorem dL_law_282 : decode cL_law 282 = .ok (.iadd, 1) := by decide +kernel
theorem dL_law_283 : decode cL_law 283 = .ok (.iaload, 1) := by decide +kernel
theorem dL_law_284 : decode cL_law 284 = .ok (.invokevirtual 23, 3) := by decide +kernel
theorem dL_law_287 : decode cL_law 287 = .ok (.aload_n 2, 1) := by decide +kernel
theorem dL_law_288 : decode cL_law 288 = .ok (.aload_n 0, 1) := by decide +kernel
theorem dL_law_289 : decode cL_law 289 = .ok (.iload_n 3, 1) := by decide +kernel
theorem dL_law_290 : decode cL_law 290 = .ok (.iconst 1, 1) := by decide +kernel
theorem dL_law_291 : decode cL_law 291 = .ok (.iadd, 1) := by decide +kernel
theorem dL_law_292 : decode cL_law 292 = .ok (.iaload, 1) := by decide +kernel
theorem dL_law_293 : decode cL_law 293 = .ok (.aload_n 0, 1) := by decide +kernel
theorem dL_law_294 : decode cL_law 294 = .ok (.iload_n 3, 1) := by decide +kernel
theorem dL_law_295 : decode cL_law 295 = .ok (.iconst 2, 1) := by decide +kernel
theorem dL_law_296 : decode cL_law 296 = .ok (.iadd, 1) := by decide +kernel
theorem dL_law_297 : decode cL_law 297 = .ok (.iaload, 1) := by decide +kernel
theorem dL_law_298 : decode cL_law 298 = .ok (.aload_n 0, 1) := by decide +kernel
theorem dL_law_299 : decode cL_law 299 = .ok (.iload_n 3, 1) := by decide +kernel
theorem dL_law_300 : decode cL_law 300 = .ok (.iconst 3, 1) := by decide +kernel
theorem dL_law_301 : decode cL_law 301 = .ok (.iadd, 1) := by decide +kernel
theorem dL_law_302 : decode cL_law 302 = .ok (.iaload, 1) := by decide +kernel
theorem dL_law_303 : decode cL_law 303 = .ok (.invokevirtual 27, 3) := by decide +kernel
theorem dL_law_306 : decode cL_law 306 = .ok (.if_icmp .eq 1180, 3) := by decide +kernel
theorem dL_law_309 : decode cL_law 309 = .ok (.iconst 0, 1) := by decide +kernel
theorem dL_law_310 : decode cL_law 310 = .ok (.ireturn, 1) := by decide +kernel
theorem dL_law_311 : decode cL_law 311 = .ok (.aload_n 1, 1) := by decide +kernel
theorem dL_law_312 : decode cL_law 312 = .ok (.aload_n 0, 1) := by decide +kernel
theorem dL_law_313 : decode cL_law 313 = .ok (.iload_n 3, 1) := by decide +kernel
theorem dL_law_314 : decode cL_law 314 = .ok (.iconst 1, 1) := by decide +kernel
theorem dL_law_315 : decode cL_law 315 = .ok (.iadd, 1) := by decide +kernel
theorem dL_law_316 : decode cL_law 316 = .ok (.iaload, 1) := by decide +kernel
theorem dL_law_317 : decode cL_law 317 = .ok (.aload_n 0, 1) := by decide +kernel
theorem dL_law_318 : decode cL_law 318 = .ok (.iload_n 3, 1) := by decide +kernel
theorem dL_law_319 : decode cL_law 319 = .ok (.iconst 2, 1) := by decide +kernel
theorem dL_law_320 : decode cL_law 320 = .ok (.iadd, 1) := by decide +kernel
theorem dL_law_321 : decode cL_law 321 = .ok (.iaload, 1) := by decide +kernel
theorem dL_law_322 : decode cL_law 322 = .ok (.invokevirtual 28, 3) := by decide +kernel
theorem dL_law_325 : decode cL_law 325 = .ok (.aload_n 2, 1) := by decide +kernel
theorem dL_law_326 : decode cL_law 326 = .ok (.aload_n 0, 1) := by decide +kernel
theorem dL_law_327 : decode cL_law 327 = .ok (.iload_n 3, 1) := by decide +kernel
theorem dL_law_328 : decode cL_law 328 = .ok (.iconst 1, 1) := by decide +kernel
theorem dL_law_329 : decode cL_law 329 = .ok (.iadd, 1) := by decide +kernel
theorem dL_law_330 : decode cL_law 330 = .ok (.iaload, 1) := by decide +kernel
theorem dL_law_331 : decode cL_law 331 = .ok (.aload_n 0, 1) := by decide +kernel
theorem dL_law_332 : decode cL_law 332 = .ok (.iload_n 3, 1) := by decide +kernel
theorem dL_law_333 : decode cL_law 333 = .ok (.iconst 2, 1) := by decide +kernel
theorem dL_law_334 : decode cL_law 334 = .ok (.iadd, 1) := by decide +kernel
theorem dL_law_335 : decode cL_law 335 = .ok (.iaload, 1) := by decide +kernel
theorem dL_law_336 : decode cL_law 336 = .ok (.invokevirtual 31, 3) := by decide +kernel
theorem dL_law_339 : decode cL_law 339 = .ok (.if_icmp .eq 1147, 3) := by decide +kernel
theorem dL_law_342 : decode cL_law 342 = .ok (.iconst 0, 1) := by decide +kernel
theorem dL_law_343 : decode cL_law 343 = .ok (.ireturn, 1) := by decide +kernel
theorem dL_law_344 : decode cL_law 344 = .ok (.aload_n 1, 1) := by decide +kernel
theorem dL_law_345 : decode cL_law 345 = .ok (.aload_n 0, 1) := by decide +kernel
theorem dL_law_346 : decode cL_law 346 = .ok (.iload_n 3, 1) := by decide +kernel
theorem dL_law_347 : decode cL_law 347 = .ok (.iconst 1, 1) := by decide +kernel
theorem dL_law_348 : decode cL_law 348 = .ok (.iadd, 1) := by decide +kernel
theorem dL_law_349 : decode cL_law 349 = .ok (.iaload, 1) := by decide +kernel
theorem dL_law_350 : decode cL_law 350 = .ok (.aload_n 0, 1) := by decide +kernel
theorem dL_law_351 : decode cL_law 351 = .ok (.iload_n 3, 1) := by decide +kernel
theorem dL_law_352 : decode cL_law 352 = .ok (.iconst 2, 1) := by decide +kernel
theorem dL_law_353 : decode cL_law 353 = .ok (.iadd, 1) := by decide +kernel
theorem dL_law_354 : decode cL_law 354 = .ok (.iaload, 1) := by decide +kernel
theorem dL_law_355 : decode cL_law 355 = .ok (.invokevirtual 32, 3) := by decide +kernel
theorem dL_law_358 : decode cL_law 358 = .ok (.aload_n 2, 1) := by decide +kernel
theorem dL_law_359 : decode cL_law 359 = .ok (.aload_n 0, 1) := by decide +kernel
theorem dL_law_360 : decode cL_law 360 = .ok (.iload_n 3, 1) := by decide +kernel
theorem dL_law_361 : decode cL_law 361 = .ok (.iconst 1, 1) := by decide +kernel
theorem dL_law_362 : decode cL_law 362 = .ok (.iadd, 1) := by decide +kernel
theorem dL_law_363 : decode cL_law 363 = .ok (.iaload, 1) := by decide +kernel
theorem dL_law_364 : decode cL_law 364 = .ok (.aload_n 0, 1) := by decide +kernel
theorem dL_law_365 : decode cL_law 365 = .ok (.iload_n 3, 1) := by decide +kernel
theorem dL_law_366 : decode cL_law 366 = .ok (.iconst 2, 1) := by decide +kernel
theorem dL_law_367 : decode cL_law 367 = .ok (.iadd, 1) := by decide +kernel
theorem dL_law_368 : decode cL_law 368 = .ok (.iaload, 1) := by decide +kernel
theorem dL_law_369 : decode cL_law 369 = .ok (.invokevirtual 35, 3) := by decide +kernel
theorem dL_law_372 : decode cL_law 372 = .ok (.if_icmp .eq 1114, 3) := by decide +kernel
theorem dL_law_375 : decode cL_law 375 = .ok (.iconst 0, 1) := by decide +kernel
theorem dL_law_376 : decode cL_law 376 = .ok (.ireturn, 1) := by decide +kernel
theorem dL_law_377 : decode cL_law 377 = .ok (.aload_n 1, 1) := by decide +kernel
theorem dL_law_378 : decode cL_law 378 = .ok (.aload_n 0, 1) := by decide +kernel
theorem dL_law_379 : decode cL_law 379 = .ok (.iload_n 3, 1) := by decide +kernel
theorem dL_law_380 : decode cL_law 380 = .ok (.iconst 1, 1) := by decide +kernel
theorem dL_law_381 : decode cL_law 381 = .ok (.iadd, 1) := by decide +kernel
theorem dL_law_382 : decode cL_law 382 = .ok (.iaload, 1) := by decide +kernel
theorem dL_law_383 : decode cL_law 383 = .ok (.aload_n 0, 1) := by decide +kernel
theorem dL_law_384 : decode cL_law 384 = .ok (.iload_n 3, 1) := by decide +kernel
theorem dL_law_385 : decode cL_law 385 = .ok (.iconst 2, 1) := by decide +kernel
theorem dL_law_386 : decode cL_law 386 = .ok (.iadd, 1) := by decide +kernel
theorem dL_law_387 : decode cL_law 387 = .ok (.iaload, 1) := by decide +kernel
theorem dL_law_388 : decode cL_law 388 = .ok (.aload_n 0, 1) := by decide +kernel
theorem dL_law_389 : decode cL_law 389 = .ok (.iload_n 3, 1) := by decide +kernel
theorem dL_law_390 : decode cL_law 390 = .ok (.iconst 3, 1) := by decide +kernel
theorem dL_law_391 : decode cL_law 391 = .ok (.iadd, 1) := by decide +kernel
theorem dL_law_392 : decode cL_law 392 = .ok (.iaload, 1) := by decide +kernel
theorem dL_law_393 : decode cL_law 393 = .ok (.invokevirtual 36, 3) := by decide +kernel
theorem dL_law_396 : decode cL_law 396 = .ok (.aload_n 2, 1) := by decide +kernel
theorem dL_law_397 : decode cL_law 397 = .ok (.aload_n 0, 1) := by decide +kernel
theorem dL_law_398 : decode cL_law 398 = .ok (.iload_n 3, 1) := by decide +kernel
theorem dL_law_399 : decode cL_law 399 = .ok (.iconst 1, 1) := by decide +kernel
theorem dL_law_400 : decode cL_law 400 = .ok (.iadd, 1) := by decide +kernel
theorem dL_law_401 : decode cL_law 401 = .ok (.iaload, 1) := by decide +kernel
theorem dL_law_402 : decode cL_law 402 = .ok (.aload_n 0, 1) := by decide +kernel
theorem dL_law_403 : decode cL_law 403 = .ok (.iload_n 3, 1) := by decide +kernel
theorem dL_law_404 : decode cL_law 404 = .ok (.iconst 2, 1) := by decide +kernel
theorem dL_law_405 : decode cL_law 405 = .ok (.iadd, 1) := by decide +kernel
theorem dL_law_406 : decode cL_law 406 = .ok (.iaload, 1) := by decide +kernel
theorem dL_law_407 : decode cL_law 407 = .ok (.aload_n 0, 1) := by decide +kernel
theorem dL_law_408 : decode cL_law 408 = .ok (.iload_n 3, 1) := by decide +kernel
theorem dL_law_409 : decode cL_law 409 = .ok (.iconst 3, 1) := by decide +kernel
theorem dL_law_410 : decode cL_law 410 = .ok (.iadd, 1) := by decide +kernel
theorem dL_law_411 : decode cL_law 411 = .ok (.iaload, 1) := by decide +kernel
theorem dL_law_412 : decode cL_law 412 = .ok (.invokevirtual 39, 3) := by decide +kernel
theorem dL_law_415 : decode cL_law 415 = .ok (.if_icmp .eq 1071, 3) := by decide +kernel
theorem dL_law_418 : decode cL_law 418 = .ok (.iconst 0, 1) := by decide +kernel
theorem dL_law_419 : decode cL_law 419 = .ok (.ireturn, 1) := by decide +kernel
theorem dL_law_420 : decode cL_law 420 = .ok (.aload_n 1, 1) := by decide +kernel
theorem dL_law_421 : decode cL_law 421 = .ok (.aload_n 0, 1) := by decide +kernel
theorem dL_law_422 : decode cL_law 422 = .ok (.iload_n 3, 1) := by decide +kernel
theorem dL_law_423 : decode cL_law 423 = .ok (.iconst 1, 1) := by decide +kernel
theorem dL_law_424 : decode cL_law 424 = .ok (.iadd, 1) := by decide +kernel
theorem dL_law_425 : decode cL_law 425 = .ok (.iaload, 1) := by decide +kernel
theorem dL_law_426 : decode cL_law 426 = .ok (.aload_n 0, 1) := by decide +kernel
theorem dL_law_427 : decode cL_law 427 = .ok (.iload_n 3, 1) := by decide +kernel
theorem dL_law_428 : decode cL_law 428 = .ok (.iconst 2, 1) := by decide +kernel
theorem dL_law_429 : decode cL_law 429 = .ok (.iadd, 1) := by decide +kernel
theorem dL_law_430 : decode cL_law 430 = .ok (.iaload, 1) := by decide +kernel
theorem dL_law_431 : decode cL_law 431 = .ok (.invokevirtual 40, 3) := by decide +kernel
theorem dL_law_434 : decode cL_law 434 = .ok (.aload_n 2, 1) := by decide +kernel
theorem dL_law_435 : decode cL_law 435 = .ok (.aload_n 0, 1) := by decide +kernel
theorem dL_law_436 : decode cL_law 436 = .ok (.iload_n 3, 1) := by decide +kernel
theorem dL_law_437 : decode cL_law 437 = .ok (.iconst 1, 1) := by decide +kernel
theorem dL_law_438 : decode cL_law 438 = .ok (.iadd, 1) := by decide +kernel
theorem dL_law_439 : decode cL_law 439 = .ok (.iaload, 1) := by decide +kernel
theorem dL_law_440 : decode cL_law 440 = .ok (.aload_n 0, 1) := by decide +kernel
theorem dL_law_441 : decode cL_law 441 = .ok (.iload_n 3, 1) := by decide +kernel
theorem dL_law_442 : decode cL_law 442 = .ok (.iconst 2, 1) := by decide +kernel
theorem dL_law_443 : decode cL_law 443 = .ok (.iadd, 1) := by decide +kernel
theorem dL_law_444 : decode cL_law 444 = .ok (.iaload, 1) := by decide +kernel
theorem dL_law_445 : decode cL_law 445 = .ok (.invokevirtual 43, 3) := by decide +kernel
theorem dL_law_448 : decode cL_law 448 = .ok (.if_icmp .eq 1038, 3) := by decide +kernel
theorem dL_law_451 : decode cL_law 451 = .ok (.iconst 0, 1) := by decide +kernel
theorem dL_law_452 : decode cL_law 452 = .ok (.ireturn, 1) := by decide +kernel
theorem dL_law_453 : decode cL_law 453 = .ok (.aload_n 1, 1) := by decide +kernel
theorem dL_law_454 : decode cL_law 454 = .ok (.aload_n 0, 1) := by decide +kernel
theorem dL_law_455 : decode cL_law 455 = .ok (.iload_n 3, 1) := by decide +kernel
theorem dL_law_456 : decode cL_law 456 = .ok (.iconst 1, 1) := by decide +kernel
theorem dL_law_457 : decode cL_law 457 = .ok (.iadd, 1) := by decide +kernel
theorem dL_law_458 : decode cL_law 458 = .ok (.iaload, 1) := by decide +kernel
theorem dL_law_459 : decode cL_law 459 = .ok (.aload_n 0, 1) := by decide +kernel
theorem dL_law_460 : decode cL_law 460 = .ok (.iload_n 3, 1) := by decide +kernel
theorem dL_law_461 : decode cL_law 461 = .ok (.iconst 2, 1) := by decide +kernel
theorem dL_law_462 : decode cL_law 462 = .ok (.iadd, 1) := by decide +kernel
theorem dL_law_463 : decode cL_law 463 = .ok (.iaload, 1) := by decide +kernel
theorem dL_law_464 : decode cL_law 464 = .ok (.invokevirtual 44, 3) := by decide +kernel
theorem dL_law_467 : decode cL_law 467 = .ok (.aload_n 2, 1) := by decide +kernel
theorem dL_law_468 : decode cL_law 468 = .ok (.aload_n 0, 1) := by decide +kernel
theorem dL_law_469 : decode cL_law 469 = .ok (.iload_n 3, 1) := by decide +kernel
theorem dL_law_470 : decode cL_law 470 = .ok (.iconst 1, 1) := by decide +kernel
theorem dL_law_471 : decode cL_law 471 = .ok (.iadd, 1) := by decide +kernel
theorem dL_law_472 : decode cL_law 472 = .ok (.iaload, 1) := by decide +kernel
theorem dL_law_473 : decode cL_law 473 = .ok (.aload_n 0, 1) := by decide +kernel
theorem dL_law_474 : decode cL_law 474 = .ok (.iload_n 3, 1) := by decide +kernel
theorem dL_law_475 : decode cL_law 475 = .ok (.iconst 2, 1) := by decide +kernel
theorem dL_law_476 : decode cL_law 476 = .ok (.iadd, 1) := by decide +kernel
theorem dL_law_477 : decode cL_law 477 = .ok (.iaload, 1) := by decide +kernel
theorem dL_law_478 : decode cL_law 478 = .ok (.invokevirtual 47, 3) := by decide +kernel
theorem dL_law_481 : decode cL_law 481 = .ok (.if_icmp .eq 1005, 3) := by decide +kernel
theorem dL_law_484 : decode cL_law 484 = .ok (.iconst 0, 1) := by decide +kernel
theorem dL_law_485 : decode cL_law 485 = .ok (.ireturn, 1) := by decide +kernel
theorem dL_law_486 : decode cL_law 486 = .ok (.aload_n 1, 1) := by decide +kernel
theorem dL_law_487 : decode cL_law 487 = .ok (.aload_n 0, 1) := by decide +kernel
theorem dL_law_488 : decode cL_law 488 = .ok (.iload_n 3, 1) := by decide +kernel
theorem dL_law_489 : decode cL_law 489 = .ok (.iconst 1, 1) := by decide +kernel
theorem dL_law_490 : decode cL_law 490 = .ok (.iadd, 1) := by decide +kernel
theorem dL_law_491 : decode cL_law 491 = .ok (.iaload, 1) := by decide +kernel
theorem dL_law_492 : decode cL_law 492 = .ok (.aload_n 0, 1) := by decide +kernel
theorem dL_law_493 : decode cL_law 493 = .ok (.iload_n 3, 1) := by decide +kernel
theorem dL_law_494 : decode cL_law 494 = .ok (.iconst 2, 1) := by decide +kernel
theorem dL_law_495 : decode cL_law 495 = .ok (.iadd, 1) := by decide +kernel
theorem dL_law_496 : decode cL_law 496 = .ok (.iaload, 1) := by decide +kernel
theorem dL_law_497 : decode cL_law 497 = .ok (.invokevirtual 48, 3) := by decide +kernel
theorem dL_law_500 : decode cL_law 500 = .ok (.aload_n 2, 1) := by decide +kernel
theorem dL_law_501 : decode cL_law 501 = .ok (.aload_n 0, 1) := by decide +kernel
theorem dL_law_502 : decode cL_law 502 = .ok (.iload_n 3, 1) := by decide +kernel
theorem dL_law_503 : decode cL_law 503 = .ok (.iconst 1, 1) := by decide +kernel
theorem dL_law_504 : decode cL_law 504 = .ok (.iadd, 1) := by decide +kernel
theorem dL_law_505 : decode cL_law 505 = .ok (.iaload, 1) := by decide +kernel
theorem dL_law_506 : decode cL_law 506 = .ok (.aload_n 0, 1) := by decide +kernel
theorem dL_law_507 : decode cL_law 507 = .ok (.iload_n 3, 1) := by decide +kernel
theorem dL_law_508 : decode cL_law 508 = .ok (.iconst 2, 1) := by decide +kernel
theorem dL_law_509 : decode cL_law 509 = .ok (.iadd, 1) := by decide +kernel
theorem dL_law_510 : decode cL_law 510 = .ok (.iaload, 1) := by decide +kernel
theorem dL_law_511 : decode cL_law 511 = .ok (.invokevirtual 51, 3) := by decide +kernel
theorem dL_law_514 : decode cL_law 514 = .ok (.if_icmp .eq 972, 3) := by decide +kernel
theorem dL_law_517 : decode cL_law 517 = .ok (.iconst 0, 1) := by decide +kernel
theorem dL_law_518 : decode cL_law 518 = .ok (.ireturn, 1) := by decide +kernel
theorem dL_law_519 : decode cL_law 519 = .ok (.aload_n 1, 1) := by decide +kernel
theorem dL_law_520 : decode cL_law 520 = .ok (.aload_n 0, 1) := by decide +kernel
theorem dL_law_521 : decode cL_law 521 = .ok (.iload_n 3, 1) := by decide +kernel
theorem dL_law_522 : decode cL_law 522 = .ok (.iconst 1, 1) := by decide +kernel
theorem dL_law_523 : decode cL_law 523 = .ok (.iadd, 1) := by decide +kernel
theorem dL_law_524 : decode cL_law 524 = .ok (.iaload, 1) := by decide +kernel
theorem dL_law_525 : decode cL_law 525 = .ok (.aload_n 0, 1) := by decide +kernel
theorem dL_law_526 : decode cL_law 526 = .ok (.iload_n 3, 1) := by decide +kernel
theorem dL_law_527 : decode cL_law 527 = .ok (.iconst 2, 1) := by decide +kernel
theorem dL_law_528 : decode cL_law 528 = .ok (.iadd, 1) := by decide +kernel
theorem dL_law_529 : decode cL_law 529 = .ok (.iaload, 1) := by decide +kernel
theorem dL_law_530 : decode cL_law 530 = .ok (.aload_n 0, 1) := by decide +kernel
theorem dL_law_531 : decode cL_law 531 = .ok (.iload_n 3, 1) := by decide +kernel
theorem dL_law_532 : decode cL_law 532 = .ok (.iconst 3, 1) := by decide +kernel
theorem dL_law_533 : decode cL_law 533 = .ok (.iadd, 1) := by decide +kernel
theorem dL_law_534 : decode cL_law 534 = .ok (.iaload, 1) := by decide +kernel
theorem dL_law_535 : decode cL_law 535 = .ok (.invokevirtual 52, 3) := by decide +kernel
theorem dL_law_538 : decode cL_law 538 = .ok (.aload_n 2, 1) := by decide +kernel
theorem dL_law_539 : decode cL_law 539 = .ok (.aload_n 0, 1) := by decide +kernel
theorem dL_law_540 : decode cL_law 540 = .ok (.iload_n 3, 1) := by decide +kernel
theorem dL_law_541 : decode cL_law 541 = .ok (.iconst 1, 1) := by decide +kernel
theorem dL_law_542 : decode cL_law 542 = .ok (.iadd, 1) := by decide +kernel
theorem dL_law_543 : decode cL_law 543 = .ok (.iaload, 1) := by decide +kernel
theorem dL_law_544 : decode cL_law 544 = .ok (.aload_n 0, 1) := by decide +kernel
theorem dL_law_545 : decode cL_law 545 = .ok (.iload_n 3, 1) := by decide +kernel
theorem dL_law_546 : decode cL_law 546 = .ok (.iconst 2, 1) := by decide +kernel
theorem dL_law_547 : decode cL_law 547 = .ok (.iadd, 1) := by decide +kernel
theorem dL_law_548 : decode cL_law 548 = .ok (.iaload, 1) := by decide +kernel
theorem dL_law_549 : decode cL_law 549 = .ok (.aload_n 0, 1) := by decide +kernel
theorem dL_law_550 : decode cL_law 550 = .ok (.iload_n 3, 1) := by decide +kernel
theorem dL_law_551 : decode cL_law 551 = .ok (.iconst 3, 1) := by decide +kernel
theorem dL_law_552 : decode cL_law 552 = .ok (.iadd, 1) := by decide +kernel
theorem dL_law_553 : decode cL_law 553 = .ok (.iaload, 1) := by decide +kernel
theorem dL_law_554 : decode cL_law 554 = .ok (.invokevirtual 55, 3) := by decide +kernel
theorem dL_law_557 : decode cL_law 557 = .ok (.if_icmp .eq 929, 3) := by decide +kernel
theorem dL_law_560 : decode cL_law 560 = .ok (.iconst 0, 1) := by decide +kernel
theorem dL_law_561 : decode cL_law 561 = .ok (.ireturn, 1) := by decide +kernel
theorem dL_law_562 : decode cL_law 562 = .ok (.aload_n 1, 1) := by decide +kernel
theorem dL_law_563 : decode cL_law 563 = .ok (.aload_n 0, 1) := by decide +kernel
theorem dL_law_564 : decode cL_law 564 = .ok (.iload_n 3, 1) := by decide +kernel
theorem dL_law_565 : decode cL_law 565 = .ok (.iconst 1, 1) := by decide +kernel
theorem dL_law_566 : decode cL_law 566 = .ok (.iadd, 1) := by decide +kernel
theorem dL_law_567 : decode cL_law 567 = .ok (.iaload, 1) := by decide +kernel
theorem dL_law_568 : decode cL_law 568 = .ok (.aload_n 0, 1) := by decide +kernel
theorem dL_law_569 : decode cL_law 569 = .ok (.iload_n 3, 1) := by decide +kernel
theorem dL_law_570 : decode cL_law 570 = .ok (.iconst 2, 1) := by decide +kernel
theorem dL_law_571 : decode cL_law 571 = .ok (.iadd, 1) := by decide +kernel
theorem dL_law_572 : decode cL_law 572 = .ok (.iaload, 1) := by decide +kernel
theorem dL_law_573 : decode cL_law 573 = .ok (.invokevirtual 56, 3) := by decide +kernel
theorem dL_law_576 : decode cL_law 576 = .ok (.aload_n 2, 1) := by decide +kernel
theorem dL_law_577 : decode cL_law 577 = .ok (.aload_n 0, 1) := by decide +kernel
theorem dL_law_578 : decode cL_law 578 = .ok (.iload_n 3, 1) := by decide +kernel
theorem dL_law_579 : decode cL_law 579 = .ok (.iconst 1, 1) := by decide +kernel
theorem dL_law_580 : decode cL_law 580 = .ok (.iadd, 1) := by decide +kernel
theorem dL_law_581 : decode cL_law 581 = .ok (.iaload, 1) := by decide +kernel
theorem dL_law_582 : decode cL_law 582 = .ok (.aload_n 0, 1) := by decide +kernel
theorem dL_law_583 : decode cL_law 583 = .ok (.iload_n 3, 1) := by decide +kernel
theorem dL_law_584 : decode cL_law 584 = .ok (.iconst 2, 1) := by decide +kernel
theorem dL_law_585 : decode cL_law 585 = .ok (.iadd, 1) := by decide +kernel
theorem dL_law_586 : decode cL_law 586 = .ok (.iaload, 1) := by decide +kernel
theorem dL_law_587 : decode cL_law 587 = .ok (.invokevirtual 59, 3) := by decide +kernel
theorem dL_law_590 : decode cL_law 590 = .ok (.if_icmp .eq 896, 3) := by decide +kernel
theorem dL_law_593 : decode cL_law 593 = .ok (.iconst 0, 1) := by decide +kernel
theorem dL_law_594 : decode cL_law 594 = .ok (.ireturn, 1) := by decide +kernel
theorem dL_law_595 : decode cL_law 595 = .ok (.aload_n 1, 1) := by decide +kernel
theorem dL_law_596 : decode cL_law 596 = .ok (.aload_n 0, 1) := by decide +kernel
theorem dL_law_597 : decode cL_law 597 = .ok (.iload_n 3, 1) := by decide +kernel
theorem dL_law_598 : decode cL_law 598 = .ok (.iconst 1, 1) := by decide +kernel
theorem dL_law_599 : decode cL_law 599 = .ok (.iadd, 1) := by decide +kernel
theorem dL_law_600 : decode cL_law 600 = .ok (.iaload, 1) := by decide +kernel
theorem dL_law_601 : decode cL_law 601 = .ok (.invokevirtual 60, 3) := by decide +kernel
theorem dL_law_604 : decode cL_law 604 = .ok (.aload_n 2, 1) := by decide +kernel
theorem dL_law_605 : decode cL_law 605 = .ok (.aload_n 0, 1) := by decide +kernel
theorem dL_law_606 : decode cL_law 606 = .ok (.iload_n 3, 1) := by decide +kernel
theorem dL_law_607 : decode cL_law 607 = .ok (.iconst 1, 1) := by decide +kernel
theorem dL_law_608 : decode cL_law 608 = .ok (.iadd, 1) := by decide +kernel
theorem dL_law_609 : decode cL_law 609 = .ok (.iaload, 1) := by decide +kernel
theorem dL_law_610 : decode cL_law 610 = .ok (.invokevirtual 63, 3) := by decide +kernel
theorem dL_law_613 : decode cL_law 613 = .ok (.if_icmp .eq 873, 3) := by decide +kernel
theorem dL_law_616 : decode cL_law 616 = .ok (.iconst 0, 1) := by decide +kernel
theorem dL_law_617 : decode cL_law 617 = .ok (.ireturn, 1) := by decide +kernel
theorem dL_law_618 : decode cL_law 618 = .ok (.aload_n 1, 1) := by decide +kernel
theorem dL_law_619 : decode cL_law 619 = .ok (.aload_n 0, 1) := by decide +kernel
theorem dL_law_620 : decode cL_law 620 = .ok (.iload_n 3, 1) := by decide +kernel
theorem dL_law_621 : decode cL_law 621 = .ok (.iconst 1, 1) := by decide +kernel
theorem dL_law_622 : decode cL_law 622 = .ok (.iadd, 1) := by decide +kernel
theorem dL_law_623 : decode cL_law 623 = .ok (.iaload, 1) := by decide +kernel
theorem dL_law_624 : decode cL_law 624 = .ok (.invokevirtual 64, 3) := by decide +kernel
theorem dL_law_627 : decode cL_law 627 = .ok (.aload_n 2, 1) := by decide +kernel
theorem dL_law_628 : decode cL_law 628 = .ok (.aload_n 0, 1) := by decide +kernel
theorem dL_law_629 : decode cL_law 629 = .ok (.iload_n 3, 1) := by decide +kernel
theorem dL_law_630 : decode cL_law 630 = .ok (.iconst 1, 1) := by decide +kernel
theorem dL_law_631 : decode cL_law 631 = .ok (.iadd, 1) := by decide +kernel
theorem dL_law_632 : decode cL_law 632 = .ok (.iaload, 1) := by decide +kernel
theorem dL_law_633 : decode cL_law 633 = .ok (.invokevirtual 67, 3) := by decide +kernel
theorem dL_law_636 : decode cL_law 636 = .ok (.if_icmp .eq 850, 3) := by decide +kernel
theorem dL_law_639 : decode cL_law 639 = .ok (.iconst 0, 1) := by decide +kernel
theorem dL_law_640 : decode cL_law 640 = .ok (.ireturn, 1) := by decide +kernel
theorem dL_law_641 : decode cL_law 641 = .ok (.aload_n 1, 1) := by decide +kernel
theorem dL_law_642 : decode cL_law 642 = .ok (.aload_n 0, 1) := by decide +kernel
theorem dL_law_643 : decode cL_law 643 = .ok (.iload_n 3, 1) := by decide +kernel
theorem dL_law_644 : decode cL_law 644 = .ok (.iconst 1, 1) := by decide +kernel
theorem dL_law_645 : decode cL_law 645 = .ok (.iadd, 1) := by decide +kernel
theorem dL_law_646 : decode cL_law 646 = .ok (.iaload, 1) := by decide +kernel
theorem dL_law_647 : decode cL_law 647 = .ok (.invokevirtual 68, 3) := by decide +kernel
theorem dL_law_650 : decode cL_law 650 = .ok (.aload_n 2, 1) := by decide +kernel
theorem dL_law_651 : decode cL_law 651 = .ok (.aload_n 0, 1) := by decide +kernel
theorem dL_law_652 : decode cL_law 652 = .ok (.iload_n 3, 1) := by decide +kernel
theorem dL_law_653 : decode cL_law 653 = .ok (.iconst 1, 1) := by decide +kernel
theorem dL_law_654 : decode cL_law 654 = .ok (.iadd, 1) := by decide +kernel
theorem dL_law_655 : decode cL_law 655 = .ok (.iaload, 1) := by decide +kernel
theorem dL_law_656 : decode cL_law 656 = .ok (.invokevirtual 71, 3) := by decide +kernel
theorem dL_law_659 : decode cL_law 659 = .ok (.if_icmp .eq 827, 3) := by decide +kernel
theorem dL_law_662 : decode cL_law 662 = .ok (.iconst 0, 1) := by decide +kernel
theorem dL_law_663 : decode cL_law 663 = .ok (.ireturn, 1) := by decide +kernel
theorem dL_law_664 : decode cL_law 664 = .ok (.aload_n 1, 1) := by decide +kernel
theorem dL_law_665 : decode cL_law 665 = .ok (.aload_n 0, 1) := by decide +kernel
theorem dL_law_666 : decode cL_law 666 = .ok (.iload_n 3, 1) := by decide +kernel
theorem dL_law_667 : decode cL_law 667 = .ok (.iconst 1, 1) := by decide +kernel
theorem dL_law_668 : decode cL_law 668 = .ok (.iadd, 1) := by decide +kernel
theorem dL_law_669 : decode cL_law 669 = .ok (.iaload, 1) := by decide +kernel
theorem dL_law_670 : decode cL_law 670 = .ok (.aload_n 0, 1) := by decide +kernel
theorem dL_law_671 : decode cL_law 671 = .ok (.iload_n 3, 1) := by decide +kernel
theorem dL_law_672 : decode cL_law 672 = .ok (.iconst 2, 1) := by decide +kernel
theorem dL_law_673 : decode cL_law 673 = .ok (.iadd, 1) := by decide +kernel
theorem dL_law_674 : decode cL_law 674 = .ok (.iaload, 1) := by decide +kernel
theorem dL_law_675 : decode cL_law 675 = .ok (.aload_n 0, 1) := by decide +kernel
theorem dL_law_676 : decode cL_law 676 = .ok (.iload_n 3, 1) := by decide +kernel
theorem dL_law_677 : decode cL_law 677 = .ok (.iconst 3, 1) := by decide +kernel
theorem dL_law_678 : decode cL_law 678 = .ok (.iadd, 1) := by decide +kernel
theorem dL_law_679 : decode cL_law 679 = .ok (.iaload, 1) := by decide +kernel
theorem dL_law_680 : decode cL_law 680 = .ok (.invokevirtual 72, 3) := by decide +kernel
theorem dL_law_683 : decode cL_law 683 = .ok (.aload_n 2, 1) := by decide +kernel
theorem dL_law_684 : decode cL_law 684 = .ok (.aload_n 0, 1) := by decide +kernel
theorem dL_law_685 : decode cL_law 685 = .ok (.iload_n 3, 1) := by decide +kernel
theorem dL_law_686 : decode cL_law 686 = .ok (.iconst 1, 1) := by decide +kernel
theorem dL_law_687 : decode cL_law 687 = .ok (.iadd, 1) := by decide +kernel
theorem dL_law_688 : decode cL_law 688 = .ok (.iaload, 1) := by decide +kernel
theorem dL_law_689 : decode cL_law 689 = .ok (.aload_n 0, 1) := by decide +kernel
theorem dL_law_690 : decode cL_law 690 = .ok (.iload_n 3, 1) := by decide +kernel
theorem dL_law_691 : decode cL_law 691 = .ok (.iconst 2, 1) := by decide +kernel
theorem dL_law_692 : decode cL_law 692 = .ok (.iadd, 1) := by decide +kernel
theorem dL_law_693 : decode cL_law 693 = .ok (.iaload, 1) := by decide +kernel
theorem dL_law_694 : decode cL_law 694 = .ok (.aload_n 0, 1) := by decide +kernel
theorem dL_law_695 : decode cL_law 695 = .ok (.iload_n 3, 1) := by decide +kernel
theorem dL_law_696 : decode cL_law 696 = .ok (.iconst 3, 1) := by decide +kernel
theorem dL_law_697 : decode cL_law 697 = .ok (.iadd, 1) := by decide +kernel
theorem dL_law_698 : decode cL_law 698 = .ok (.iaload, 1) := by decide +kernel
theorem dL_law_699 : decode cL_law 699 = .ok (.invokevirtual 75, 3) := by decide +kernel
theorem dL_law_702 : decode cL_law 702 = .ok (.if_icmp .eq 784, 3) := by decide +kernel
theorem dL_law_705 : decode cL_law 705 = .ok (.iconst 0, 1) := by decide +kernel
theorem dL_law_706 : decode cL_law 706 = .ok (.ireturn, 1) := by decide +kernel
theorem dL_law_707 : decode cL_law 707 = .ok (.aload_n 1, 1) := by decide +kernel
theorem dL_law_708 : decode cL_law 708 = .ok (.aload_n 0, 1) := by decide +kernel
theorem dL_law_709 : decode cL_law 709 = .ok (.iload_n 3, 1) := by decide +kernel
theorem dL_law_710 : decode cL_law 710 = .ok (.iconst 1, 1) := by decide +kernel
theorem dL_law_711 : decode cL_law 711 = .ok (.iadd, 1) := by decide +kernel
theorem dL_law_712 : decode cL_law 712 = .ok (.iaload, 1) := by decide +kernel
theorem dL_law_713 : decode cL_law 713 = .ok (.invokevirtual 76, 3) := by decide +kernel
theorem dL_law_716 : decode cL_law 716 = .ok (.aload_n 2, 1) := by decide +kernel
theorem dL_law_717 : decode cL_law 717 = .ok (.aload_n 0, 1) := by decide +kernel
theorem dL_law_718 : decode cL_law 718 = .ok (.iload_n 3, 1) := by decide +kernel
theorem dL_law_719 : decode cL_law 719 = .ok (.iconst 1, 1) := by decide +kernel
theorem dL_law_720 : decode cL_law 720 = .ok (.iadd, 1) := by decide +kernel
theorem dL_law_721 : decode cL_law 721 = .ok (.iaload, 1) := by decide +kernel
theorem dL_law_722 : decode cL_law 722 = .ok (.invokevirtual 79, 3) := by decide +kernel
theorem dL_law_725 : decode cL_law 725 = .ok (.if_icmp .eq 761, 3) := by decide +kernel
theorem dL_law_728 : decode cL_law 728 = .ok (.iconst 0, 1) := by decide +kernel
theorem dL_law_729 : decode cL_law 729 = .ok (.ireturn, 1) := by decide +kernel
theorem dL_law_730 : decode cL_law 730 = .ok (.aload_n 1, 1) := by decide +kernel
theorem dL_law_731 : decode cL_law 731 = .ok (.aload_n 0, 1) := by decide +kernel
theorem dL_law_732 : decode cL_law 732 = .ok (.iload_n 3, 1) := by decide +kernel
theorem dL_law_733 : decode cL_law 733 = .ok (.iconst 1, 1) := by decide +kernel
theorem dL_law_734 : decode cL_law 734 = .ok (.iadd, 1) := by decide +kernel
theorem dL_law_735 : decode cL_law 735 = .ok (.iaload, 1) := by decide +kernel
theorem dL_law_736 : decode cL_law 736 = .ok (.invokevirtual 80, 3) := by decide +kernel
theorem dL_law_739 : decode cL_law 739 = .ok (.aload_n 2, 1) := by decide +kernel
theorem dL_law_740 : decode cL_law 740 = .ok (.aload_n 0, 1) := by decide +kernel
theorem dL_law_741 : decode cL_law 741 = .ok (.iload_n 3, 1) := by decide +kernel
theorem dL_law_742 : decode cL_law 742 = .ok (.iconst 1, 1) := by decide +kernel
theorem dL_law_743 : decode cL_law 743 = .ok (.iadd, 1) := by decide +kernel
theorem dL_law_744 : decode cL_law 744 = .ok (.iaload, 1) := by decide +kernel
theorem dL_law_745 : decode cL_law 745 = .ok (.invokevirtual 83, 3) := by decide +kernel
theorem dL_law_748 : decode cL_law 748 = .ok (.if_icmp .eq 738, 3) := by decide +kernel
theorem dL_law_751 : decode cL_law 751 = .ok (.iconst 0, 1) := by decide +kernel
theorem dL_law_752 : decode cL_law 752 = .ok (.ireturn, 1) := by decide +kernel
theorem dL_law_753 : decode cL_law 753 = .ok (.aload_n 1, 1) := by decide +kernel
theorem dL_law_754 : decode cL_law 754 = .ok (.aload_n 0, 1) := by decide +kernel
theorem dL_law_755 : decode cL_law 755 = .ok (.iload_n 3, 1) := by decide +kernel
theorem dL_law_756 : decode cL_law 756 = .ok (.iconst 1, 1) := by decide +kernel
theorem dL_law_757 : decode cL_law 757 = .ok (.iadd, 1) := by decide +kernel
theorem dL_law_758 : decode cL_law 758 = .ok (.iaload, 1) := by decide +kernel
theorem dL_law_759 : decode cL_law 759 = .ok (.aload_n 0, 1) := by decide +kernel
theorem dL_law_760 : decode cL_law 760 = .ok (.iload_n 3, 1) := by decide +kernel
theorem dL_law_761 : decode cL_law 761 = .ok (.iconst 2, 1) := by decide +kernel
theorem dL_law_762 : decode cL_law 762 = .ok (.iadd, 1) := by decide +kernel
theorem dL_law_763 : decode cL_law 763 = .ok (.iaload, 1) := by decide +kernel
theorem dL_law_764 : decode cL_law 764 = .ok (.aload_n 0, 1) := by decide +kernel
theorem dL_law_765 : decode cL_law 765 = .ok (.iload_n 3, 1) := by decide +kernel
theorem dL_law_766 : decode cL_law 766 = .ok (.iconst 3, 1) := by decide +kernel
theorem dL_law_767 : decode cL_law 767 = .ok (.iadd, 1) := by decide +kernel
theorem dL_law_768 : decode cL_law 768 = .ok (.iaload, 1) := by decide +kernel
theorem dL_law_769 : decode cL_law 769 = .ok (.invokevirtual 84, 3) := by decide +kernel
theorem dL_law_772 : decode cL_law 772 = .ok (.aload_n 2, 1) := by decide +kernel
theorem dL_law_773 : decode cL_law 773 = .ok (.aload_n 0, 1) := by decide +kernel
theorem dL_law_774 : decode cL_law 774 = .ok (.iload_n 3, 1) := by decide +kernel
theorem dL_law_775 : decode cL_law 775 = .ok (.iconst 1, 1) := by decide +kernel
theorem dL_law_776 : decode cL_law 776 = .ok (.iadd, 1) := by decide +kernel
theorem dL_law_777 : decode cL_law 777 = .ok (.iaload, 1) := by decide +kernel
theorem dL_law_778 : decode cL_law 778 = .ok (.aload_n 0, 1) := by decide +kernel
theorem dL_law_779 : decode cL_law 779 = .ok (.iload_n 3, 1) := by decide +kernel
theorem dL_law_780 : decode cL_law 780 = .ok (.iconst 2, 1) := by decide +kernel
theorem dL_law_781 : decode cL_law 781 = .ok (.iadd, 1) := by decide +kernel
theorem dL_law_782 : decode cL_law 782 = .ok (.iaload, 1) := by decide +kernel
theorem dL_law_783 : decode cL_law 783 = .ok (.aload_n 0, 1) := by decide +kernel
theorem dL_law_784 : decode cL_law 784 = .ok (.iload_n 3, 1) := by decide +kernel
theorem dL_law_785 : decode cL_law 785 = .ok (.iconst 3, 1) := by decide +kernel
theorem dL_law_786 : decode cL_law 786 = .ok (.iadd, 1) := by decide +kernel
theorem dL_law_787 : decode cL_law 787 = .ok (.iaload, 1) := by decide +kernel
theorem dL_law_788 : decode cL_law 788 = .ok (.invokevirtual 87, 3) := by decide +kernel
theorem dL_law_791 : decode cL_law 791 = .ok (.if_icmp .eq 695, 3) := by decide +kernel
theorem dL_law_794 : decode cL_law 794 = .ok (.iconst 0, 1) := by decide +kernel
theorem dL_law_795 : decode cL_law 795 = .ok (.ireturn, 1) := by decide +kernel
theorem dL_law_796 : decode cL_law 796 = .ok (.aload_n 1, 1) := by decide +kernel
theorem dL_law_797 : decode cL_law 797 = .ok (.aload_n 0, 1) := by decide +kernel
theorem dL_law_798 : decode cL_law 798 = .ok (.iload_n 3, 1) := by decide +kernel
theorem dL_law_799 : decode cL_law 799 = .ok (.iconst 1, 1) := by decide +kernel
theorem dL_law_800 : decode cL_law 800 = .ok (.iadd, 1) := by decide +kernel
theorem dL_law_801 : decode cL_law 801 = .ok (.iaload, 1) := by decide +kernel
theorem dL_law_802 : decode cL_law 802 = .ok (.aload_n 0, 1) := by decide +kernel
theorem dL_law_803 : decode cL_law 803 = .ok (.iload_n 3, 1) := by decide +kernel
theorem dL_law_804 : decode cL_law 804 = .ok (.iconst 2, 1) := by decide +kernel
theorem dL_law_805 : decode cL_law 805 = .ok (.iadd, 1) := by decide +kernel
theorem dL_law_806 : decode cL_law 806 = .ok (.iaload, 1) := by decide +kernel
theorem dL_law_807 : decode cL_law 807 = .ok (.aload_n 0, 1) := by decide +kernel
theorem dL_law_808 : decode cL_law 808 = .ok (.iload_n 3, 1) := by decide +kernel
theorem dL_law_809 : decode cL_law 809 = .ok (.iconst 3, 1) := by decide +kernel
theorem dL_law_810 : decode cL_law 810 = .ok (.iadd, 1) := by decide +kernel
theorem dL_law_811 : decode cL_law 811 = .ok (.iaload, 1) := by decide +kernel
theorem dL_law_812 : decode cL_law 812 = .ok (.invokevirtual 88, 3) := by decide +kernel
theorem dL_law_815 : decode cL_law 815 = .ok (.aload_n 2, 1) := by decide +kernel
theorem dL_law_816 : decode cL_law 816 = .ok (.aload_n 0, 1) := by decide +kernel
theorem dL_law_817 : decode cL_law 817 = .ok (.iload_n 3, 1) := by decide +kernel
theorem dL_law_818 : decode cL_law 818 = .ok (.iconst 1, 1) := by decide +kernel
theorem dL_law_819 : decode cL_law 819 = .ok (.iadd, 1) := by decide +kernel
theorem dL_law_820 : decode cL_law 820 = .ok (.iaload, 1) := by decide +kernel
theorem dL_law_821 : decode cL_law 821 = .ok (.aload_n 0, 1) := by decide +kernel
theorem dL_law_822 : decode cL_law 822 = .ok (.iload_n 3, 1) := by decide +kernel
theorem dL_law_823 : decode cL_law 823 = .ok (.iconst 2, 1) := by decide +kernel
theorem dL_law_824 : decode cL_law 824 = .ok (.iadd, 1) := by decide +kernel
theorem dL_law_825 : decode cL_law 825 = .ok (.iaload, 1) := by decide +kernel
theorem dL_law_826 : decode cL_law 826 = .ok (.aload_n 0, 1) := by decide +kernel
theorem dL_law_827 : decode cL_law 827 = .ok (.iload_n 3, 1) := by decide +kernel
theorem dL_law_828 : decode cL_law 828 = .ok (.iconst 3, 1) := by decide +kernel
theorem dL_law_829 : decode cL_law 829 = .ok (.iadd, 1) := by decide +kernel
theorem dL_law_830 : decode cL_law 830 = .ok (.iaload, 1) := by decide +kernel
theorem dL_law_831 : decode cL_law 831 = .ok (.invokevirtual 91, 3) := by decide +kernel
theorem dL_law_834 : decode cL_law 834 = .ok (.if_icmp .eq 652, 3) := by decide +kernel
theorem dL_law_837 : decode cL_law 837 = .ok (.iconst 0, 1) := by decide +kernel
theorem dL_law_838 : decode cL_law 838 = .ok (.ireturn, 1) := by decide +kernel
theorem dL_law_839 : decode cL_law 839 = .ok (.aload_n 1, 1) := by decide +kernel
theorem dL_law_840 : decode cL_law 840 = .ok (.aload_n 0, 1) := by decide +kernel
theorem dL_law_841 : decode cL_law 841 = .ok (.iload_n 3, 1) := by decide +kernel
theorem dL_law_842 : decode cL_law 842 = .ok (.iconst 1, 1) := by decide +kernel
theorem dL_law_843 : decode cL_law 843 = .ok (.iadd, 1) := by decide +kernel
theorem dL_law_844 : decode cL_law 844 = .ok (.iaload, 1) := by decide +kernel
theorem dL_law_845 : decode cL_law 845 = .ok (.invokevirtual 92, 3) := by decide +kernel
theorem dL_law_848 : decode cL_law 848 = .ok (.aload_n 2, 1) := by decide +kernel
theorem dL_law_849 : decode cL_law 849 = .ok (.aload_n 0, 1) := by decide +kernel
theorem dL_law_850 : decode cL_law 850 = .ok (.iload_n 3, 1) := by decide +kernel
theorem dL_law_851 : decode cL_law 851 = .ok (.iconst 1, 1) := by decide +kernel
theorem dL_law_852 : decode cL_law 852 = .ok (.iadd, 1) := by decide +kernel
theorem dL_law_853 : decode cL_law 853 = .ok (.iaload, 1) := by decide +kernel
theorem dL_law_854 : decode cL_law 854 = .ok (.invokevirtual 95, 3) := by decide +kernel
theorem dL_law_857 : decode cL_law 857 = .ok (.if_icmp .eq 629, 3) := by decide +kernel
theorem dL_law_860 : decode cL_law 860 = .ok (.iconst 0, 1) := by decide +kernel
theorem dL_law_861 : decode cL_law 861 = .ok (.ireturn, 1) := by decide +kernel
theorem dL_law_862 : decode cL_law 862 = .ok (.aload_n 1, 1) := by decide +kernel
theorem dL_law_863 : decode cL_law 863 = .ok (.aload_n 0, 1) := by decide +kernel
theorem dL_law_864 : decode cL_law 864 = .ok (.iload_n 3, 1) := by decide +kernel
theorem dL_law_865 : decode cL_law 865 = .ok (.iconst 1, 1) := by decide +kernel
theorem dL_law_866 : decode cL_law 866 = .ok (.iadd, 1) := by decide +kernel
theorem dL_law_867 : decode cL_law 867 = .ok (.iaload, 1) := by decide +kernel
theorem dL_law_868 : decode cL_law 868 = .ok (.aload_n 0, 1) := by decide +kernel
theorem dL_law_869 : decode cL_law 869 = .ok (.iload_n 3, 1) := by decide +kernel
theorem dL_law_870 : decode cL_law 870 = .ok (.iconst 2, 1) := by decide +kernel
theorem dL_law_871 : decode cL_law 871 = .ok (.iadd, 1) := by decide +kernel
theorem dL_law_872 : decode cL_law 872 = .ok (.iaload, 1) := by decide +kernel
theorem dL_law_873 : decode cL_law 873 = .ok (.aload_n 0, 1) := by decide +kernel
theorem dL_law_874 : decode cL_law 874 = .ok (.iload_n 3, 1) := by decide +kernel
theorem dL_law_875 : decode cL_law 875 = .ok (.iconst 3, 1) := by decide +kernel
theorem dL_law_876 : decode cL_law 876 = .ok (.iadd, 1) := by decide +kernel
theorem dL_law_877 : decode cL_law 877 = .ok (.iaload, 1) := by decide +kernel
theorem dL_law_878 : decode cL_law 878 = .ok (.aload_n 0, 1) := by decide +kernel
theorem dL_law_879 : decode cL_law 879 = .ok (.iload_n 3, 1) := by decide +kernel
theorem dL_law_880 : decode cL_law 880 = .ok (.iconst 4, 1) := by decide +kernel
theorem dL_law_881 : decode cL_law 881 = .ok (.iadd, 1) := by decide +kernel
theorem dL_law_882 : decode cL_law 882 = .ok (.iaload, 1) := by decide +kernel
theorem dL_law_883 : decode cL_law 883 = .ok (.invokevirtual 96, 3) := by decide +kernel
theorem dL_law_886 : decode cL_law 886 = .ok (.aload_n 2, 1) := by decide +kernel
theorem dL_law_887 : decode cL_law 887 = .ok (.aload_n 0, 1) := by decide +kernel
theorem dL_law_888 : decode cL_law 888 = .ok (.iload_n 3, 1) := by decide +kernel
theorem dL_law_889 : decode cL_law 889 = .ok (.iconst 1, 1) := by decide +kernel
theorem dL_law_890 : decode cL_law 890 = .ok (.iadd, 1) := by decide +kernel
theorem dL_law_891 : decode cL_law 891 = .ok (.iaload, 1) := by decide +kernel
theorem dL_law_892 : decode cL_law 892 = .ok (.aload_n 0, 1) := by decide +kernel
theorem dL_law_893 : decode cL_law 893 = .ok (.iload_n 3, 1) := by decide +kernel
theorem dL_law_894 : decode cL_law 894 = .ok (.iconst 2, 1) := by decide +kernel
theorem dL_law_895 : decode cL_law 895 = .ok (.iadd, 1) := by decide +kernel
theorem dL_law_896 : decode cL_law 896 = .ok (.iaload, 1) := by decide +kernel
theorem dL_law_897 : decode cL_law 897 = .ok (.aload_n 0, 1) := by decide +kernel
theorem dL_law_898 : decode cL_law 898 = .ok (.iload_n 3, 1) := by decide +kernel
theorem dL_law_899 : decode cL_law 899 = .ok (.iconst 3, 1) := by decide +kernel
theorem dL_law_900 : decode cL_law 900 = .ok (.iadd, 1) := by decide +kernel
theorem dL_law_901 : decode cL_law 901 = .ok (.iaload, 1) := by decide +kernel
theorem dL_law_902 : decode cL_law 902 = .ok (.aload_n 0, 1) := by decide +kernel
theorem dL_law_903 : decode cL_law 903 = .ok (.iload_n 3, 1) := by decide +kernel
theorem dL_law_904 : decode cL_law 904 = .ok (.iconst 4, 1) := by decide +kernel
theorem dL_law_905 : decode cL_law 905 = .ok (.iadd, 1) := by decide +kernel
theorem dL_law_906 : decode cL_law 906 = .ok (.iaload, 1) := by decide +kernel
theorem dL_law_907 : decode cL_law 907 = .ok (.invokevirtual 100, 3) := by decide +kernel
theorem dL_law_910 : decode cL_law 910 = .ok (.if_icmp .eq 576, 3) := by decide +kernel
theorem dL_law_913 : decode cL_law 913 = .ok (.iconst 0, 1) := by decide +kernel
theorem dL_law_914 : decode cL_law 914 = .ok (.ireturn, 1) := by decide +kernel
theorem dL_law_915 : decode cL_law 915 = .ok (.aload_n 1, 1) := by decide +kernel
theorem dL_law_916 : decode cL_law 916 = .ok (.aload_n 0, 1) := by decide +kernel
theorem dL_law_917 : decode cL_law 917 = .ok (.iload_n 3, 1) := by decide +kernel
theorem dL_law_918 : decode cL_law 918 = .ok (.iconst 1, 1) := by decide +kernel
theorem dL_law_919 : decode cL_law 919 = .ok (.iadd, 1) := by decide +kernel
theorem dL_law_920 : decode cL_law 920 = .ok (.iaload, 1) := by decide +kernel
theorem dL_law_921 : decode cL_law 921 = .ok (.invokevirtual 101, 3) := by decide +kernel
theorem dL_law_924 : decode cL_law 924 = .ok (.aload_n 2, 1) := by decide +kernel
theorem dL_law_925 : decode cL_law 925 = .ok (.aload_n 0, 1) := by decide +kernel
theorem dL_law_926 : decode cL_law 926 = .ok (.iload_n 3, 1) := by decide +kernel
theorem dL_law_927 : decode cL_law 927 = .ok (.iconst 1, 1) := by decide +kernel
theorem dL_law_928 : decode cL_law 928 = .ok (.iadd, 1) := by decide +kernel
theorem dL_law_929 : decode cL_law 929 = .ok (.iaload, 1) := by decide +kernel
theorem dL_law_930 : decode cL_law 930 = .ok (.invokevirtual 104, 3) := by decide +kernel
theorem dL_law_933 : decode cL_law 933 = .ok (.if_icmp .eq 553, 3) := by decide +kernel
theorem dL_law_936 : decode cL_law 936 = .ok (.iconst 0, 1) := by decide +kernel
theorem dL_law_937 : decode cL_law 937 = .ok (.ireturn, 1) := by decide +kernel
theorem dL_law_938 : decode cL_law 938 = .ok (.aload_n 1, 1) := by decide +kernel
theorem dL_law_939 : decode cL_law 939 = .ok (.aload_n 0, 1) := by decide +kernel
theorem dL_law_940 : decode cL_law 940 = .ok (.iload_n 3, 1) := by decide +kernel
theorem dL_law_941 : decode cL_law 941 = .ok (.iconst 1, 1) := by decide +kernel
theorem dL_law_942 : decode cL_law 942 = .ok (.iadd, 1) := by decide +kernel
theorem dL_law_943 : decode cL_law 943 = .ok (.iaload, 1) := by decide +kernel
theorem dL_law_944 : decode cL_law 944 = .ok (.invokevirtual 105, 3) := by decide +kernel
theorem dL_law_947 : decode cL_law 947 = .ok (.aload_n 2, 1) := by decide +kernel
theorem dL_law_948 : decode cL_law 948 = .ok (.aload_n 0, 1) := by decide +kernel
theorem dL_law_949 : decode cL_law 949 = .ok (.iload_n 3, 1) := by decide +kernel
theorem dL_law_950 : decode cL_law 950 = .ok (.iconst 1, 1) := by decide +kernel
theorem dL_law_951 : decode cL_law 951 = .ok (.iadd, 1) := by decide +kernel
theorem dL_law_952 : decode cL_law 952 = .ok (.iaload, 1) := by decide +kernel
theorem dL_law_953 : decode cL_law 953 = .ok (.invokevirtual 108, 3) := by decide +kernel
theorem dL_law_956 : decode cL_law 956 = .ok (.if_icmp .eq 530, 3) := by decide +kernel
theorem dL_law_959 : decode cL_law 959 = .ok (.iconst 0, 1) := by decide +kernel
theorem dL_law_960 : decode cL_law 960 = .ok (.ireturn, 1) := by decide +kernel
theorem dL_law_961 : decode cL_law 961 = .ok (.aload_n 1, 1) := by decide +kernel
theorem dL_law_962 : decode cL_law 962 = .ok (.aload_n 0, 1) := by decide +kernel
theorem dL_law_963 : decode cL_law 963 = .ok (.iload_n 3, 1) := by decide +kernel
theorem dL_law_964 : decode cL_law 964 = .ok (.iconst 1, 1) := by decide +kernel
theorem dL_law_965 : decode cL_law 965 = .ok (.iadd, 1) := by decide +kernel
theorem dL_law_966 : decode cL_law 966 = .ok (.iaload, 1) := by decide +kernel
theorem dL_law_967 : decode cL_law 967 = .ok (.invokevirtual 109, 3) := by decide +kernel
theorem dL_law_970 : decode cL_law 970 = .ok (.aload_n 2, 1) := by decide +kernel
theorem dL_law_971 : decode cL_law 971 = .ok (.aload_n 0, 1) := by decide +kernel
theorem dL_law_972 : decode cL_law 972 = .ok (.iload_n 3, 1) := by decide +kernel
theorem dL_law_973 : decode cL_law 973 = .ok (.iconst 1, 1) := by decide +kernel
theorem dL_law_974 : decode cL_law 974 = .ok (.iadd, 1) := by decide +kernel
theorem dL_law_975 : decode cL_law 975 = .ok (.iaload, 1) := by decide +kernel
theorem dL_law_976 : decode cL_law 976 = .ok (.invokevirtual 112, 3) := by decide +kernel
theorem dL_law_979 : decode cL_law 979 = .ok (.if_icmp .eq 507, 3) := by decide +kernel
theorem dL_law_982 : decode cL_law 982 = .ok (.iconst 0, 1) := by decide +kernel
theorem dL_law_983 : decode cL_law 983 = .ok (.ireturn, 1) := by decide +kernel
theorem dL_law_984 : decode cL_law 984 = .ok (.aload_n 1, 1) := by decide +kernel
theorem dL_law_985 : decode cL_law 985 = .ok (.aload_n 0, 1) := by decide +kernel
theorem dL_law_986 : decode cL_law 986 = .ok (.iload_n 3, 1) := by decide +kernel
theorem dL_law_987 : decode cL_law 987 = .ok (.iconst 1, 1) := by decide +kernel
theorem dL_law_988 : decode cL_law 988 = .ok (.iadd, 1) := by decide +kernel
theorem dL_law_989 : decode cL_law 989 = .ok (.iaload, 1) := by decide +kernel
theorem dL_law_990 : decode cL_law 990 = .ok (.aload_n 0, 1) := by decide +kernel
theorem dL_law_991 : decode cL_law 991 = .ok (.iload_n 3, 1) := by decide +kernel
theorem dL_law_992 : decode cL_law 992 = .ok (.iconst 2, 1) := by decide +kernel
theorem dL_law_993 : decode cL_law 993 = .ok (.iadd, 1) := by decide +kernel
theorem dL_law_994 : decode cL_law 994 = .ok (.iaload, 1) := by decide +kernel
theorem dL_law_995 : decode cL_law 995 = .ok (.invokevirtual 113, 3) := by decide +kernel
theorem dL_law_998 : decode cL_law 998 = .ok (.aload_n 2, 1) := by decide +kernel
theorem dL_law_999 : decode cL_law 999 = .ok (.aload_n 0, 1) := by decide +kernel
theorem dL_law_1000 : decode cL_law 1000 = .ok (.iload_n 3, 1) := by decide +kernel
theorem dL_law_1001 : decode cL_law 1001 = .ok (.iconst 1, 1) := by decide +kernel
theorem dL_law_1002 : decode cL_law 1002 = .ok (.iadd, 1) := by decide +kernel
theorem dL_law_1003 : decode cL_law 1003 = .ok (.iaload, 1) := by decide +kernel
theorem dL_law_1004 : decode cL_law 1004 = .ok (.aload_n 0, 1) := by decide +kernel
theorem dL_law_1005 : decode cL_law 1005 = .ok (.iload_n 3, 1) := by decide +kernel
theorem dL_law_1006 : decode cL_law 1006 = .ok (.iconst 2, 1) := by decide +kernel
theorem dL_law_1007 : decode cL_law 1007 = .ok (.iadd, 1) := by decide +kernel
theorem dL_law_1008 : decode cL_law 1008 = .ok (.iaload, 1) := by decide +kernel
theorem dL_law_1009 : decode cL_law 1009 = .ok (.invokevirtual 116, 3) := by decide +kernel
theorem dL_law_1012 : decode cL_law 1012 = .ok (.if_icmp .eq 474, 3) := by decide +kernel
theorem dL_law_1015 : decode cL_law 1015 = .ok (.iconst 0, 1) := by decide +kernel
theorem dL_law_1016 : decode cL_law 1016 = .ok (.ireturn, 1) := by decide +kernel
theorem dL_law_1017 : decode cL_law 1017 = .ok (.aload_n 1, 1) := by decide +kernel
theorem dL_law_1018 : decode cL_law 1018 = .ok (.aload_n 0, 1) := by decide +kernel
theorem dL_law_1019 : decode cL_law 1019 = .ok (.iload_n 3, 1) := by decide +kernel
theorem dL_law_1020 : decode cL_law 1020 = .ok (.iconst 1, 1) := by decide +kernel
theorem dL_law_1021 : decode cL_law 1021 = .ok (.iadd, 1) := by decide +kernel
theorem dL_law_1022 : decode cL_law 1022 = .ok (.iaload, 1) := by decide +kernel
theorem dL_law_1023 : decode cL_law 1023 = .ok (.aload_n 0, 1) := by decide +kernel
theorem dL_law_1024 : decode cL_law 1024 = .ok (.iload_n 3, 1) := by decide +kernel
theorem dL_law_1025 : decode cL_law 1025 = .ok (.iconst 2, 1) := by decide +kernel
theorem dL_law_1026 : decode cL_law 1026 = .ok (.iadd, 1) := by decide +kernel
theorem dL_law_1027 : decode cL_law 1027 = .ok (.iaload, 1) := by decide +kernel
theorem dL_law_1028 : decode cL_law 1028 = .ok (.invokevirtual 117, 3) := by decide +kernel
theorem dL_law_1031 : decode cL_law 1031 = .ok (.aload_n 2, 1) := by decide +kernel
theorem dL_law_1032 : decode cL_law 1032 = .ok (.aload_n 0, 1) := by decide +kernel
theorem dL_law_1033 : decode cL_law 1033 = .ok (.iload_n 3, 1) := by decide +kernel
theorem dL_law_1034 : decode cL_law 1034 = .ok (.iconst 1, 1) := by decide +kernel
theorem dL_law_1035 : decode cL_law 1035 = .ok (.iadd, 1) := by decide +kernel
theorem dL_law_1036 : decode cL_law 1036 = .ok (.iaload, 1) := by decide +kernel
theorem dL_law_1037 : decode cL_law 1037 = .ok (.aload_n 0, 1) := by decide +kernel
theorem dL_law_1038 : decode cL_law 1038 = .ok (.iload_n 3, 1) := by decide +kernel
theorem dL_law_1039 : decode cL_law 1039 = .ok (.iconst 2, 1) := by decide +kernel
theorem dL_law_1040 : decode cL_law 1040 = .ok (.iadd, 1) := by decide +kernel
theorem dL_law_1041 : decode cL_law 1041 = .ok (.iaload, 1) := by decide +kernel
theorem dL_law_1042 : decode cL_law 1042 = .ok (.invokevirtual 120, 3) := by decide +kernel
theorem dL_law_1045 : decode cL_law 1045 = .ok (.if_icmp .eq 441, 3) := by decide +kernel
theorem dL_law_1048 : decode cL_law 1048 = .ok (.iconst 0, 1) := by decide +kernel
theorem dL_law_1049 : decode cL_law 1049 = .ok (.ireturn, 1) := by decide +kernel
theorem dL_law_1050 : decode cL_law 1050 = .ok (.aload_n 1, 1) := by decide +kernel
theorem dL_law_1051 : decode cL_law 1051 = .ok (.aload_n 0, 1) := by decide +kernel
theorem dL_law_1052 : decode cL_law 1052 = .ok (.iload_n 3, 1) := by decide +kernel
theorem dL_law_1053 : decode cL_law 1053 = .ok (.iconst 1, 1) := by decide +kernel
theorem dL_law_1054 : decode cL_law 1054 = .ok (.iadd, 1) := by decide +kernel
theorem dL_law_1055 : decode cL_law 1055 = .ok (.iaload, 1) := by decide +kernel
theorem dL_law_1056 : decode cL_law 1056 = .ok (.invokevirtual 121, 3) := by decide +kernel
theorem dL_law_1059 : decode cL_law 1059 = .ok (.aload_n 2, 1) := by decide +kernel
theorem dL_law_1060 : decode cL_law 1060 = .ok (.aload_n 0, 1) := by decide +kernel
theorem dL_law_1061 : decode cL_law 1061 = .ok (.iload_n 3, 1) := by decide +kernel
theorem dL_law_1062 : decode cL_law 1062 = .ok (.iconst 1, 1) := by decide +kernel
theorem dL_law_1063 : decode cL_law 1063 = .ok (.iadd, 1) := by decide +kernel
theorem dL_law_1064 : decode cL_law 1064 = .ok (.iaload, 1) := by decide +kernel
theorem dL_law_1065 : decode cL_law 1065 = .ok (.invokevirtual 124, 3) := by decide +kernel
theorem dL_law_1068 : decode cL_law 1068 = .ok (.if_icmp .eq 418, 3) := by decide +kernel
theorem dL_law_1071 : decode cL_law 1071 = .ok (.iconst 0, 1) := by decide +kernel
theorem dL_law_1072 : decode cL_law 1072 = .ok (.ireturn, 1) := by decide +kernel
theorem dL_law_1073 : decode cL_law 1073 = .ok (.aload_n 1, 1) := by decide +kernel
theorem dL_law_1074 : decode cL_law 1074 = .ok (.aload_n 0, 1) := by decide +kernel
theorem dL_law_1075 : decode cL_law 1075 = .ok (.iload_n 3, 1) := by decide +kernel
theorem dL_law_1076 : decode cL_law 1076 = .ok (.iconst 1, 1) := by decide +kernel
theorem dL_law_1077 : decode cL_law 1077 = .ok (.iadd, 1) := by decide +kernel
theorem dL_law_1078 : decode cL_law 1078 = .ok (.iaload, 1) := by decide +kernel
theorem dL_law_1079 : decode cL_law 1079 = .ok (.aload_n 0, 1) := by decide +kernel
theorem dL_law_1080 : decode cL_law 1080 = .ok (.iload_n 3, 1) := by decide +kernel
theorem dL_law_1081 : decode cL_law 1081 = .ok (.iconst 2, 1) := by decide +kernel
theorem dL_law_1082 : decode cL_law 1082 = .ok (.iadd, 1) := by decide +kernel
theorem dL_law_1083 : decode cL_law 1083 = .ok (.iaload, 1) := by decide +kernel
theorem dL_law_1084 : decode cL_law 1084 = .ok (.invokevirtual 125, 3) := by decide +kernel
theorem dL_law_1087 : decode cL_law 1087 = .ok (.aload_n 2, 1) := by decide +kernel
theorem dL_law_1088 : decode cL_law 1088 = .ok (.aload_n 0, 1) := by decide +kernel
theorem dL_law_1089 : decode cL_law 1089 = .ok (.iload_n 3, 1) := by decide +kernel
theorem dL_law_1090 : decode cL_law 1090 = .ok (.iconst 1, 1) := by decide +kernel
theorem dL_law_1091 : decode cL_law 1091 = .ok (.iadd, 1) := by decide +kernel
theorem dL_law_1092 : decode cL_law 1092 = .ok (.iaload, 1) := by decide +kernel
theorem dL_law_1093 : decode cL_law 1093 = .ok (.aload_n 0, 1) := by decide +kernel
theorem dL_law_1094 : decode cL_law 1094 = .ok (.iload_n 3, 1) := by decide +kernel
theorem dL_law_1095 : decode cL_law 1095 = .ok (.iconst 2, 1) := by decide +kernel
theorem dL_law_1096 : decode cL_law 1096 = .ok (.iadd, 1) := by decide +kernel
theorem dL_law_1097 : decode cL_law 1097 = .ok (.iaload, 1) := by decide +kernel
theorem dL_law_1098 : decode cL_law 1098 = .ok (.invokevirtual 128, 3) := by decide +kernel
theorem dL_law_1101 : decode cL_law 1101 = .ok (.if_icmp .eq 385, 3) := by decide +kernel
theorem dL_law_1104 : decode cL_law 1104 = .ok (.iconst 0, 1) := by decide +kernel
theorem dL_law_1105 : decode cL_law 1105 = .ok (.ireturn, 1) := by decide +kernel
theorem dL_law_1106 : decode cL_law 1106 = .ok (.aload_n 1, 1) := by decide +kernel
theorem dL_law_1107 : decode cL_law 1107 = .ok (.invokevirtual 129, 3) := by decide +kernel
theorem dL_law_1110 : decode cL_law 1110 = .ok (.aload_n 2, 1) := by decide +kernel
theorem dL_law_1111 : decode cL_law 1111 = .ok (.invokevirtual 133, 3) := by decide +kernel
theorem dL_law_1114 : decode cL_law 1114 = .ok (.if_icmp .eq 372, 3) := by decide +kernel
theorem dL_law_1117 : decode cL_law 1117 = .ok (.iconst 0, 1) := by decide +kernel
theorem dL_law_1118 : decode cL_law 1118 = .ok (.ireturn, 1) := by decide +kernel
theorem dL_law_1119 : decode cL_law 1119 = .ok (.aload_n 1, 1) := by decide +kernel
theorem dL_law_1120 : decode cL_law 1120 = .ok (.invokevirtual 134, 3) := by decide +kernel
theorem dL_law_1123 : decode cL_law 1123 = .ok (.aload_n 2, 1) := by decide +kernel
theorem dL_law_1124 : decode cL_law 1124 = .ok (.invokevirtual 137, 3) := by decide +kernel
theorem dL_law_1127 : decode cL_law 1127 = .ok (.if_icmp .eq 359, 3) := by decide +kernel
theorem dL_law_1130 : decode cL_law 1130 = .ok (.iconst 0, 1) := by decide +kernel
theorem dL_law_1131 : decode cL_law 1131 = .ok (.ireturn, 1) := by decide +kernel
theorem dL_law_1132 : decode cL_law 1132 = .ok (.aload_n 1, 1) := by decide +kernel
theorem dL_law_1133 : decode cL_law 1133 = .ok (.aload_n 0, 1) := by decide +kernel
theorem dL_law_1134 : decode cL_law 1134 = .ok (.iload_n 3, 1) := by decide +kernel
theorem dL_law_1135 : decode cL_law 1135 = .ok (.iconst 1, 1) := by decide +kernel
theorem dL_law_1136 : decode cL_law 1136 = .ok (.iadd, 1) := by decide +kernel
theorem dL_law_1137 : decode cL_law 1137 = .ok (.iaload, 1) := by decide +kernel
theorem dL_law_1138 : decode cL_law 1138 = .ok (.aload_n 0, 1) := by decide +kernel
theorem dL_law_1139 : decode cL_law 1139 = .ok (.iload_n 3, 1) := by decide +kernel
theorem dL_law_1140 : decode cL_law 1140 = .ok (.iconst 2, 1) := by decide +kernel
theorem dL_law_1141 : decode cL_law 1141 = .ok (.iadd, 1) := by decide +kernel
theorem dL_law_1142 : decode cL_law 1142 = .ok (.iaload, 1) := by decide +kernel
theorem dL_law_1143 : decode cL_law 1143 = .ok (.aload_n 0, 1) := by decide +kernel
theorem dL_law_1144 : decode cL_law 1144 = .ok (.iload_n 3, 1) := by decide +kernel
theorem dL_law_1145 : decode cL_law 1145 = .ok (.iconst 3, 1) := by decide +kernel
theorem dL_law_1146 : decode cL_law 1146 = .ok (.iadd, 1) := by decide +kernel
theorem dL_law_1147 : decode cL_law 1147 = .ok (.iaload, 1) := by decide +kernel
theorem dL_law_1148 : decode cL_law 1148 = .ok (.invokevirtual 138, 3) := by decide +kernel
theorem dL_law_1151 : decode cL_law 1151 = .ok (.aload_n 2, 1) := by decide +kernel
theorem dL_law_1152 : decode cL_law 1152 = .ok (.aload_n 0, 1) := by decide +kernel
theorem dL_law_1153 : decode cL_law 1153 = .ok (.iload_n 3, 1) := by decide +kernel
theorem dL_law_1154 : decode cL_law 1154 = .ok (.iconst 1, 1) := by decide +kernel
theorem dL_law_1155 : decode cL_law 1155 = .ok (.iadd, 1) := by decide +kernel
theorem dL_law_1156 : decode cL_law 1156 = .ok (.iaload, 1) := by decide +kernel
theorem dL_law_1157 : decode cL_law 1157 = .ok (.aload_n 0, 1) := by decide +kernel
theorem dL_law_1158 : decode cL_law 1158 = .ok (.iload_n 3, 1) := by decide +kernel
theorem dL_law_1159 : decode cL_law 1159 = .ok (.iconst 2, 1) := by decide +kernel
theorem dL_law_1160 : decode cL_law 1160 = .ok (.iadd, 1) := by decide +kernel
theorem dL_law_1161 : decode cL_law 1161 = .ok (.iaload, 1) := by decide +kernel
theorem dL_law_1162 : decode cL_law 1162 = .ok (.aload_n 0, 1) := by decide +kernel
theorem dL_law_1163 : decode cL_law 1163 = .ok (.iload_n 3, 1) := by decide +kernel
theorem dL_law_1164 : decode cL_law 1164 = .ok (.iconst 3, 1) := by decide +kernel
theorem dL_law_1165 : decode cL_law 1165 = .ok (.iadd, 1) := by decide +kernel
theorem dL_law_1166 : decode cL_law 1166 = .ok (.iaload, 1) := by decide +kernel
theorem dL_law_1167 : decode cL_law 1167 = .ok (.invokevirtual 141, 3) := by decide +kernel
theorem dL_law_1170 : decode cL_law 1170 = .ok (.if_icmp .eq 316, 3) := by decide +kernel
theorem dL_law_1173 : decode cL_law 1173 = .ok (.iconst 0, 1) := by decide +kernel
theorem dL_law_1174 : decode cL_law 1174 = .ok (.ireturn, 1) := by decide +kernel
theorem dL_law_1175 : decode cL_law 1175 = .ok (.aload_n 1, 1) := by decide +kernel
theorem dL_law_1176 : decode cL_law 1176 = .ok (.aload_n 0, 1) := by decide +kernel
theorem dL_law_1177 : decode cL_law 1177 = .ok (.iload_n 3, 1) := by decide +kernel
theorem dL_law_1178 : decode cL_law 1178 = .ok (.iconst 1, 1) := by decide +kernel
theorem dL_law_1179 : decode cL_law 1179 = .ok (.iadd, 1) := by decide +kernel
theorem dL_law_1180 : decode cL_law 1180 = .ok (.iaload, 1) := by decide +kernel
theorem dL_law_1181 : decode cL_law 1181 = .ok (.aload_n 0, 1) := by decide +kernel
theorem dL_law_1182 : decode cL_law 1182 = .ok (.iload_n 3, 1) := by decide +kernel
theorem dL_law_1183 : decode cL_law 1183 = .ok (.iconst 2, 1) := by decide +kernel
theorem dL_law_1184 : decode cL_law 1184 = .ok (.iadd, 1) := by decide +kernel
theorem dL_law_1185 : decode cL_law 1185 = .ok (.iaload, 1) := by decide +kernel
theorem dL_law_1186 : decode cL_law 1186 = .ok (.aload_n 0, 1) := by decide +kernel
theorem dL_law_1187 : decode cL_law 1187 = .ok (.iload_n 3, 1) := by decide +kernel
theorem dL_law_1188 : decode cL_law 1188 = .ok (.iconst 3, 1) := by decide +kernel
theorem dL_law_1189 : decode cL_law 1189 = .ok (.iadd, 1) := by decide +kernel
theorem dL_law_1190 : decode cL_law 1190 = .ok (.iaload, 1) := by decide +kernel
theorem dL_law_1191 : decode cL_law 1191 = .ok (.i2l, 1) := by decide +kernel
theorem dL_law_1192 : decode cL_law 1192 = .ok (.bipush 32, 2) := by decide +kernel
theorem dL_law_1194 : decode cL_law 1194 = .ok (.lshl, 1) := by decide +kernel
theorem dL_law_1195 : decode cL_law 1195 = .ok (.aload_n 0, 1) := by decide +kernel
theorem dL_law_1196 : decode cL_law 1196 = .ok (.iload_n 3, 1) := by decide +kernel
theorem dL_law_1197 : decode cL_law 1197 = .ok (.iconst 4, 1) := by decide +kernel
theorem dL_law_1198 : decode cL_law 1198 = .ok (.iadd, 1) := by decide +kernel
theorem dL_law_1199 : decode cL_law 1199 = .ok (.iaload, 1) := by decide +kernel
theorem dL_law_1200 : decode cL_law 1200 = .ok (.i2l, 1) := by decide +kernel
theorem dL_law_1201 : decode cL_law 1201 = .ok (.ldc2_w 142, 3) := by decide +kernel
theorem dL_law_1204 : decode cL_law 1204 = .ok (.land, 1) := by decide +kernel
theorem dL_law_1205 : decode cL_law 1205 = .ok (.lor, 1) := by decide +kernel
theorem dL_law_1206 : decode cL_law 1206 = .ok (.invokevirtual 144, 3) := by decide +kernel
theorem dL_law_1209 : decode cL_law 1209 = .ok (.aload_n 2, 1) := by decide +kernel
theorem dL_law_1210 : decode cL_law 1210 = .ok (.aload_n 0, 1) := by decide +kernel
theorem dL_law_1211 : decode cL_law 1211 = .ok (.iload_n 3, 1) := by decide +kernel
theorem dL_law_1212 : decode cL_law 1212 = .ok (.iconst 1, 1) := by decide +kernel
theorem dL_law_1213 : decode cL_law 1213 = .ok (.iadd, 1) := by decide +kernel
theorem dL_law_1214 : decode cL_law 1214 = .ok (.iaload, 1) := by decide +kernel
theorem dL_law_1215 : decode cL_law 1215 = .ok (.aload_n 0, 1) := by decide +kernel
theorem dL_law_1216 : decode cL_law 1216 = .ok (.iload_n 3, 1) := by decide +kernel
theorem dL_law_1217 : decode cL_law 1217 = .ok (.iconst 2, 1) := by decide +kernel
theorem dL_law_1218 : decode cL_law 1218 = .ok (.iadd, 1) := by decide +kernel
theorem dL_law_1219 : decode cL_law 1219 = .ok (.iaload, 1) := by decide +kernel
theorem dL_law_1220 : decode cL_law 1220 = .ok (.aload_n 0, 1) := by decide +kernel
theorem dL_law_1221 : decode cL_law 1221 = .ok (.iload_n 3, 1) := by decide +kernel
theorem dL_law_1222 : decode cL_law 1222 = .ok (.iconst 3, 1) := by decide +kernel
theorem dL_law_1223 : decode cL_law 1223 = .ok (.iadd, 1) := by decide +kernel
theorem dL_law_1224 : decode cL_law 1224 = .ok (.iaload, 1) := by decide +kernel
theorem dL_law_1225 : decode cL_law 1225 = .ok (.i2l, 1) := by decide +kernel
theorem dL_law_1226 : decode cL_law 1226 = .ok (.bipush 32, 2) := by decide +kernel
theorem dL_law_1228 : decode cL_law 1228 = .ok (.lshl, 1) := by decide +kernel
theorem dL_law_1229 : decode cL_law 1229 = .ok (.aload_n 0, 1) := by decide +kernel
theorem dL_law_1230 : decode cL_law 1230 = .ok (.iload_n 3, 1) := by decide +kernel
theorem dL_law_1231 : decode cL_law 1231 = .ok (.iconst 4, 1) := by decide +kernel
theorem dL_law_1232 : decode cL_law 1232 = .ok (.iadd, 1) := by decide +kernel
theorem dL_law_1233 : decode cL_law 1233 = .ok (.iaload, 1) := by decide +kernel
theorem dL_law_1234 : decode cL_law 1234 = .ok (.i2l, 1) := by decide +kernel
theorem dL_law_1235 : decode cL_law 1235 = .ok (.ldc2_w 142, 3) := by decide +kernel
theorem dL_law_1238 : decode cL_law 1238 = .ok (.land, 1) := by decide +kernel
theorem dL_law_1239 : decode cL_law 1239 = .ok (.lor, 1) := by decide +kernel
theorem dL_law_1240 : decode cL_law 1240 = .ok (.invokevirtual 148, 3) := by decide +kernel
theorem dL_law_1243 : decode cL_law 1243 = .ok (.lcmp, 1) := by decide +kernel
theorem dL_law_1244 : decode cL_law 1244 = .ok (.ifCond .eq 242, 3) := by decide +kernel
theorem dL_law_1247 : decode cL_law 1247 = .ok (.iconst 0, 1) := by decide +kernel
theorem dL_law_1248 : decode cL_law 1248 = .ok (.ireturn, 1) := by decide +kernel
theorem dL_law_1249 : decode cL_law 1249 = .ok (.aload_n 1, 1) := by decide +kernel
theorem dL_law_1250 : decode cL_law 1250 = .ok (.aload_n 0, 1) := by decide +kernel
theorem dL_law_1251 : decode cL_law 1251 = .ok (.iload_n 3, 1) := by decide +kernel
theorem dL_law_1252 : decode cL_law 1252 = .ok (.iconst 1, 1) := by decide +kernel
theorem dL_law_1253 : decode cL_law 1253 = .ok (.iadd, 1) := by decide +kernel
theorem dL_law_1254 : decode cL_law 1254 = .ok (.iaload, 1) := by decide +kernel
theorem dL_law_1255 : decode cL_law 1255 = .ok (.aload_n 0, 1) := by decide +kernel
theorem dL_law_1256 : decode cL_law 1256 = .ok (.iload_n 3, 1) := by decide +kernel
theorem dL_law_1257 : decode cL_law 1257 = .ok (.iconst 2, 1) := by decide +kernel
theorem dL_law_1258 : decode cL_law 1258 = .ok (.iadd, 1) := by decide +kernel
theorem dL_law_1259 : decode cL_law 1259 = .ok (.iaload, 1) := by decide +kernel
theorem dL_law_1260 : decode cL_law 1260 = .ok (.aload_n 0, 1) := by decide +kernel
theorem dL_law_1261 : decode cL_law 1261 = .ok (.iload_n 3, 1) := by decide +kernel
theorem dL_law_1262 : decode cL_law 1262 = .ok (.iconst 3, 1) := by decide +kernel
theorem dL_law_1263 : decode cL_law 1263 = .ok (.iadd, 1) := by decide +kernel
theorem dL_law_1264 : decode cL_law 1264 = .ok (.iaload, 1) := by decide +kernel
theorem dL_law_1265 : decode cL_law 1265 = .ok (.aload_n 0, 1) := by decide +kernel
theorem dL_law_1266 : decode cL_law 1266 = .ok (.iload_n 3, 1) := by decide +kernel
theorem dL_law_1267 : decode cL_law 1267 = .ok (.iconst 4, 1) := by decide +kernel
theorem dL_law_1268 : decode cL_law 1268 = .ok (.iadd, 1) := by decide +kernel
theorem dL_law_1269 : decode cL_law 1269 = .ok (.iaload, 1) := by decide +kernel
theorem dL_law_1270 : decode cL_law 1270 = .ok (.aload_n 0, 1) := by decide +kernel
theorem dL_law_1271 : decode cL_law 1271 = .ok (.iload_n 3, 1) := by decide +kernel
theorem dL_law_1272 : decode cL_law 1272 = .ok (.iconst 5, 1) := by decide +kernel
theorem dL_law_1273 : decode cL_law 1273 = .ok (.iadd, 1) := by decide +kernel
theorem dL_law_1274 : decode cL_law 1274 = .ok (.iaload, 1) := by decide +kernel
theorem dL_law_1275 : decode cL_law 1275 = .ok (.invokevirtual 149, 3) := by decide +kernel
theorem dL_law_1278 : decode cL_law 1278 = .ok (.aload_n 2, 1) := by decide +kernel
theorem dL_law_1279 : decode cL_law 1279 = .ok (.aload_n 0, 1) := by decide +kernel
theorem dL_law_1280 : decode cL_law 1280 = .ok (.iload_n 3, 1) := by decide +kernel
theorem dL_law_1281 : decode cL_law 1281 = .ok (.iconst 1, 1) := by decide +kernel
theorem dL_law_1282 : decode cL_law 1282 = .ok (.iadd, 1) := by decide +kernel
theorem dL_law_1283 : decode cL_law 1283 = .ok (.iaload, 1) := by decide +kernel
theorem dL_law_1284 : decode cL_law 1284 = .ok (.aload_n 0, 1) := by decide +kernel
theorem dL_law_1285 : decode cL_law 1285 = .ok (.iload_n 3, 1) := by decide +kernel
theorem dL_law_1286 : decode cL_law 1286 = .ok (.iconst 2, 1) := by decide +kernel
theorem dL_law_1287 : decode cL_law 1287 = .ok (.iadd, 1) := by decide +kernel
theorem dL_law_1288 : decode cL_law 1288 = .ok (.iaload, 1) := by decide +kernel
theorem dL_law_1289 : decode cL_law 1289 = .ok (.aload_n 0, 1) := by decide +kernel
theorem dL_law_1290 : decode cL_law 1290 = .ok (.iload_n 3, 1) := by decide +kernel
theorem dL_law_1291 : decode cL_law 1291 = .ok (.iconst 3, 1) := by decide +kernel
theorem dL_law_1292 : decode cL_law 1292 = .ok (.iadd, 1) := by decide +kernel
theorem dL_law_1293 : decode cL_law 1293 = .ok (.iaload, 1) := by decide +kernel
theorem dL_law_1294 : decode cL_law 1294 = .ok (.aload_n 0, 1) := by decide +kernel
theorem dL_law_1295 : decode cL_law 1295 = .ok (.iload_n 3, 1) := by decide +kernel
theorem dL_law_1296 : decode cL_law 1296 = .ok (.iconst 4, 1) := by decide +kernel
theorem dL_law_1297 : decode cL_law 1297 = .ok (.iadd, 1) := by decide +kernel
theorem dL_law_1298 : decode cL_law 1298 = .ok (.iaload, 1) := by decide +kernel
theorem dL_law_1299 : decode cL_law 1299 = .ok (.aload_n 0, 1) := by decide +kernel
theorem dL_law_1300 : decode cL_law 1300 = .ok (.iload_n 3, 1) := by decide +kernel
theorem dL_law_1301 : decode cL_law 1301 = .ok (.iconst 5, 1) := by decide +kernel
theorem dL_law_1302 : decode cL_law 1302 = .ok (.iadd, 1) := by decide +kernel
theorem dL_law_1303 : decode cL_law 1303 = .ok (.iaload, 1) := by decide +kernel
theorem dL_law_1304 : decode cL_law 1304 = .ok (.invokevirtual 153, 3) := by decide +kernel
theorem dL_law_1307 : decode cL_law 1307 = .ok (.if_icmp .eq 179, 3) := by decide +kernel
theorem dL_law_1310 : decode cL_law 1310 = .ok (.iconst 0, 1) := by decide +kernel
theorem dL_law_1311 : decode cL_law 1311 = .ok (.ireturn, 1) := by decide +kernel
theorem dL_law_1312 : decode cL_law 1312 = .ok (.aload_n 1, 1) := by decide +kernel
theorem dL_law_1313 : decode cL_law 1313 = .ok (.aload_n 0, 1) := by decide +kernel
theorem dL_law_1314 : decode cL_law 1314 = .ok (.iload_n 3, 1) := by decide +kernel
theorem dL_law_1315 : decode cL_law 1315 = .ok (.iconst 1, 1) := by decide +kernel
theorem dL_law_1316 : decode cL_law 1316 = .ok (.iadd, 1) := by decide +kernel
theorem dL_law_1317 : decode cL_law 1317 = .ok (.iaload, 1) := by decide +kernel
theorem dL_law_1318 : decode cL_law 1318 = .ok (.invokevirtual 154, 3) := by decide +kernel
theorem dL_law_1321 : decode cL_law 1321 = .ok (.aload_n 2, 1) := by decide +kernel
theorem dL_law_1322 : decode cL_law 1322 = .ok (.aload_n 0, 1) := by decide +kernel
theorem dL_law_1323 : decode cL_law 1323 = .ok (.iload_n 3, 1) := by decide +kernel
theorem dL_law_1324 : decode cL_law 1324 = .ok (.iconst 1, 1) := by decide +kernel
theorem dL_law_1325 : decode cL_law 1325 = .ok (.iadd, 1) := by decide +kernel
theorem dL_law_1326 : decode cL_law 1326 = .ok (.iaload, 1) := by decide +kernel
theorem dL_law_1327 : decode cL_law 1327 = .ok (.invokevirtual 157, 3) := by decide +kernel
theorem dL_law_1330 : decode cL_law 1330 = .ok (.if_icmp .eq 156, 3) := by decide +kernel
theorem dL_law_1333 : decode cL_law 1333 = .ok (.iconst 0, 1) := by decide +kernel
theorem dL_law_1334 : decode cL_law 1334 = .ok (.ireturn, 1) := by decide +kernel
theorem dL_law_1335 : decode cL_law 1335 = .ok (.aload_n 1, 1) := by decide +kernel
theorem dL_law_1336 : decode cL_law 1336 = .ok (.aload_n 0, 1) := by decide +kernel
theorem dL_law_1337 : decode cL_law 1337 = .ok (.iload_n 3, 1) := by decide +kernel
theorem dL_law_1338 : decode cL_law 1338 = .ok (.iconst 1, 1) := by decide +kernel
theorem dL_law_1339 : decode cL_law 1339 = .ok (.iadd, 1) := by decide +kernel
theorem dL_law_1340 : decode cL_law 1340 = .ok (.iaload, 1) := by decide +kernel
theorem dL_law_1341 : decode cL_law 1341 = .ok (.aload_n 0, 1) := by decide +kernel
theorem dL_law_1342 : decode cL_law 1342 = .ok (.iload_n 3, 1) := by decide +kernel
theorem dL_law_1343 : decode cL_law 1343 = .ok (.iconst 2, 1) := by decide +kernel
theorem dL_law_1344 : decode cL_law 1344 = .ok (.iadd, 1) := by decide +kernel
theorem dL_law_1345 : decode cL_law 1345 = .ok (.iaload, 1) := by decide +kernel
theorem dL_law_1346 : decode cL_law 1346 = .ok (.invokevirtual 158, 3) := by decide +kernel
theorem dL_law_1349 : decode cL_law 1349 = .ok (.aload_n 2, 1) := by decide +kernel
theorem dL_law_1350 : decode cL_law 1350 = .ok (.aload_n 0, 1) := by decide +kernel
theorem dL_law_1351 : decode cL_law 1351 = .ok (.iload_n 3, 1) := by decide +kernel
theorem dL_law_1352 : decode cL_law 1352 = .ok (.iconst 1, 1) := by decide +kernel
theorem dL_law_1353 : decode cL_law 1353 = .ok (.iadd, 1) := by decide +kernel
theorem dL_law_1354 : decode cL_law 1354 = .ok (.iaload, 1) := by decide +kernel
theorem dL_law_1355 : decode cL_law 1355 = .ok (.aload_n 0, 1) := by decide +kernel
theorem dL_law_1356 : decode cL_law 1356 = .ok (.iload_n 3, 1) := by decide +kernel
theorem dL_law_1357 : decode cL_law 1357 = .ok (.iconst 2, 1) := by decide +kernel
theorem dL_law_1358 : decode cL_law 1358 = .ok (.iadd, 1) := by decide +kernel
theorem dL_law_1359 : decode cL_law 1359 = .ok (.iaload, 1) := by decide +kernel
theorem dL_law_1360 : decode cL_law 1360 = .ok (.invokevirtual 161, 3) := by decide +kernel
theorem dL_law_1363 : decode cL_law 1363 = .ok (.if_icmp .eq 123, 3) := by decide +kernel
theorem dL_law_1366 : decode cL_law 1366 = .ok (.iconst 0, 1) := by decide +kernel
theorem dL_law_1367 : decode cL_law 1367 = .ok (.ireturn, 1) := by decide +kernel
theorem dL_law_1368 : decode cL_law 1368 = .ok (.aload_n 1, 1) := by decide +kernel
theorem dL_law_1369 : decode cL_law 1369 = .ok (.aload_n 0, 1) := by decide +kernel
theorem dL_law_1370 : decode cL_law 1370 = .ok (.iload_n 3, 1) := by decide +kernel
theorem dL_law_1371 : decode cL_law 1371 = .ok (.iconst 1, 1) := by decide +kernel
theorem dL_law_1372 : decode cL_law 1372 = .ok (.iadd, 1) := by decide +kernel
theorem dL_law_1373 : decode cL_law 1373 = .ok (.iaload, 1) := by decide +kernel
theorem dL_law_1374 : decode cL_law 1374 = .ok (.aload_n 0, 1) := by decide +kernel
theorem dL_law_1375 : decode cL_law 1375 = .ok (.iload_n 3, 1) := by decide +kernel
theorem dL_law_1376 : decode cL_law 1376 = .ok (.iconst 2, 1) := by decide +kernel
theorem dL_law_1377 : decode cL_law 1377 = .ok (.iadd, 1) := by decide +kernel
theorem dL_law_1378 : decode cL_law 1378 = .ok (.iaload, 1) := by decide +kernel
theorem dL_law_1379 : decode cL_law 1379 = .ok (.invokevirtual 162, 3) := by decide +kernel
theorem dL_law_1382 : decode cL_law 1382 = .ok (.aload_n 2, 1) := by decide +kernel
theorem dL_law_1383 : decode cL_law 1383 = .ok (.aload_n 0, 1) := by decide +kernel
theorem dL_law_1384 : decode cL_law 1384 = .ok (.iload_n 3, 1) := by decide +kernel
theorem dL_law_1385 : decode cL_law 1385 = .ok (.iconst 1, 1) := by decide +kernel
theorem dL_law_1386 : decode cL_law 1386 = .ok (.iadd, 1) := by decide +kernel
theorem dL_law_1387 : decode cL_law 1387 = .ok (.iaload, 1) := by decide +kernel
theorem dL_law_1388 : decode cL_law 1388 = .ok (.aload_n 0, 1) := by decide +kernel
theorem dL_law_1389 : decode cL_law 1389 = .ok (.iload_n 3, 1) := by decide +kernel
theorem dL_law_1390 : decode cL_law 1390 = .ok (.iconst 2, 1) := by decide +kernel
theorem dL_law_1391 : decode cL_law 1391 = .ok (.iadd, 1) := by decide +kernel
theorem dL_law_1392 : decode cL_law 1392 = .ok (.iaload, 1) := by decide +kernel
theorem dL_law_1393 : decode cL_law 1393 = .ok (.invokevirtual 165, 3) := by decide +kernel
theorem dL_law_1396 : decode cL_law 1396 = .ok (.if_icmp .eq 90, 3) := by decide +kernel
theorem dL_law_1399 : decode cL_law 1399 = .ok (.iconst 0, 1) := by decide +kernel
theorem dL_law_1400 : decode cL_law 1400 = .ok (.ireturn, 1) := by decide +kernel
theorem dL_law_1401 : decode cL_law 1401 = .ok (.aload_n 1, 1) := by decide +kernel
theorem dL_law_1402 : decode cL_law 1402 = .ok (.invokevirtual 166, 3) := by decide +kernel
theorem dL_law_1405 : decode cL_law 1405 = .ok (.aload_n 2, 1) := by decide +kernel
theorem dL_law_1406 : decode cL_law 1406 = .ok (.invokevirtual 169, 3) := by decide +kernel
theorem dL_law_1409 : decode cL_law 1409 = .ok (.if_icmp .eq 77, 3) := by decide +kernel
theorem dL_law_1412 : decode cL_law 1412 = .ok (.iconst 0, 1) := by decide +kernel
theorem dL_law_1413 : decode cL_law 1413 = .ok (.ireturn, 1) := by decide +kernel
theorem dL_law_1414 : decode cL_law 1414 = .ok (.aload_n 1, 1) := by decide +kernel
theorem dL_law_1415 : decode cL_law 1415 = .ok (.invokevirtual 170, 3) := by decide +kernel
theorem dL_law_1418 : decode cL_law 1418 = .ok (.aload_n 2, 1) := by decide +kernel
theorem dL_law_1419 : decode cL_law 1419 = .ok (.invokevirtual 173, 3) := by decide +kernel
theorem dL_law_1422 : decode cL_law 1422 = .ok (.if_icmp .eq 64, 3) := by decide +kernel
theorem dL_law_1425 : decode cL_law 1425 = .ok (.iconst 0, 1) := by decide +kernel
theorem dL_law_1426 : decode cL_law 1426 = .ok (.ireturn, 1) := by decide +kernel
theorem dL_law_1427 : decode cL_law 1427 = .ok (.aload_n 1, 1) := by decide +kernel
theorem dL_law_1428 : decode cL_law 1428 = .ok (.invokevirtual 174, 3) := by decide +kernel
theorem dL_law_1431 : decode cL_law 1431 = .ok (.aload_n 2, 1) := by decide +kernel
theorem dL_law_1432 : decode cL_law 1432 = .ok (.invokevirtual 177, 3) := by decide +kernel
theorem dL_law_1435 : decode cL_law 1435 = .ok (.if_icmp .eq 51, 3) := by decide +kernel
theorem dL_law_1438 : decode cL_law 1438 = .ok (.iconst 0, 1) := by decide +kernel
theorem dL_law_1439 : decode cL_law 1439 = .ok (.ireturn, 1) := by decide +kernel
theorem dL_law_1440 : decode cL_law 1440 = .ok (.aload_n 1, 1) := by decide +kernel
theorem dL_law_1441 : decode cL_law 1441 = .ok (.aload_n 0, 1) := by decide +kernel
theorem dL_law_1442 : decode cL_law 1442 = .ok (.iload_n 3, 1) := by decide +kernel
theorem dL_law_1443 : decode cL_law 1443 = .ok (.iconst 1, 1) := by decide +kernel
theorem dL_law_1444 : decode cL_law 1444 = .ok (.iadd, 1) := by decide +kernel
theorem dL_law_1445 : decode cL_law 1445 = .ok (.iaload, 1) := by decide +kernel
theorem dL_law_1446 : decode cL_law 1446 = .ok (.invokevirtual 178, 3) := by decide +kernel
theorem dL_law_1449 : decode cL_law 1449 = .ok (.aload_n 2, 1) := by decide +kernel
theorem dL_law_1450 : decode cL_law 1450 = .ok (.aload_n 0, 1) := by decide +kernel
theorem dL_law_1451 : decode cL_law 1451 = .ok (.iload_n 3, 1) := by decide +kernel
theorem dL_law_1452 : decode cL_law 1452 = .ok (.iconst 1, 1) := by decide +kernel
theorem dL_law_1453 : decode cL_law 1453 = .ok (.iadd, 1) := by decide +kernel
theorem dL_law_1454 : decode cL_law 1454 = .ok (.iaload, 1) := by decide +kernel
theorem dL_law_1455 : decode cL_law 1455 = .ok (.invokevirtual 181, 3) := by decide +kernel
theorem dL_law_1458 : decode cL_law 1458 = .ok (.if_icmp .eq 28, 3) := by decide +kernel
theorem dL_law_1461 : decode cL_law 1461 = .ok (.iconst 0, 1) := by decide +kernel
theorem dL_law_1462 : decode cL_law 1462 = .ok (.ireturn, 1) := by decide +kernel
theorem dL_law_1463 : decode cL_law 1463 = .ok (.aload_n 1, 1) := by decide +kernel
theorem dL_law_1464 : decode cL_law 1464 = .ok (.aload_n 0, 1) := by decide +kernel
theorem dL_law_1465 : decode cL_law 1465 = .ok (.iload_n 3, 1) := by decide +kernel
theorem dL_law_1466 : decode cL_law 1466 = .ok (.iconst 1, 1) := by decide +kernel
theorem dL_law_1467 : decode cL_law 1467 = .ok (.iadd, 1) := by decide +kernel
theorem dL_law_1468 : decode cL_law 1468 = .ok (.iaload, 1) := by decide +kernel
theorem dL_law_1469 : decode cL_law 1469 = .ok (.invokevirtual 182, 3) := by decide +kernel
theorem dL_law_1472 : decode cL_law 1472 = .ok (.aload_n 2, 1) := by decide +kernel
theorem dL_law_1473 : decode cL_law 1473 = .ok (.aload_n 0, 1) := by decide +kernel
theorem dL_law_1474 : decode cL_law 1474 = .ok (.iload_n 3, 1) := by decide +kernel
theorem dL_law_1475 : decode cL_law 1475 = .ok (.iconst 1, 1) := by decide +kernel
theorem dL_law_1476 : decode cL_law 1476 = .ok (.iadd, 1) := by decide +kernel
theorem dL_law_1477 : decode cL_law 1477 = .ok (.iaload, 1) := by decide +kernel
theorem dL_law_1478 : decode cL_law 1478 = .ok (.invokevirtual 185, 3) := by decide +kernel
theorem dL_law_1481 : decode cL_law 1481 = .ok (.if_icmp .eq 5, 3) := by decide +kernel
theorem dL_law_1484 : decode cL_law 1484 = .ok (.iconst 0, 1) := by decide +kernel
theorem dL_law_1485 : decode cL_law 1485 = .ok (.ireturn, 1) := by decide +kernel
theorem dL_law_1486 : decode cL_law 1486 = .ok (.iinc 3 6, 3) := by decide +kernel
theorem dL_law_1489 : decode cL_law 1489 = .ok (.goto (-1471), 3) := by decide +kernel
theorem dL_law_1492 : decode cL_law 1492 = .ok (.iconst 1, 1) := by decide +kernel
theorem dL_law_1493 : decode cL_law 1493 = .ok (.ireturn, 1) := by decide +kernel
end
section
/-! THE WORLD: 97 cells of fixed shape; what changes are numbers alone: rows of ints, rows of longs. -/
abbrev Uw : Type := (Nat → Nat → Int32) × (Nat → Nat → Int64)
def w1 (u : Uw) (r k : Nat) (x : Int32) : Uw := (fun a b => if a = r ∧ b = k then x else u.1 a b, u.2)
def w2 (u : Uw) (r k : Nat) (x : Int64) : Uw := (u.1, fun a b => if a = r ∧ b = k then x else u.2 a b)
def cp1 (u : Uw) (f : Nat → Int32) (r k n : Nat) : Uw := (fun a b => if a = r ∧ k ≤ b ∧ b < k + n then f (b - k) else u.1 a b, u.2)
def cp2 (u : Uw) (f : Nat → Int64) (r k n : Nat) : Uw := (u.1, fun a b => if a = r ∧ k ≤ b ∧ b < k + n then f (b - k) else u.2 a b)
def kTl : List Nat := [3, 13, 14, 0, 0, 0, 0, 0, 0, 10, 10, 10, 10, 10, 10, 1, 1, 1, 1, 1, 1, 1, 1, 3, 13, 14, 0, 0, 0, 0, 0, 0, 10, 10, 10, 10, 10, 10, 1, 1, 1, 1, 1, 1, 1, 1, 3, 13, 14, 0, 0, 0, 0, 0, 0, 10, 10, 10, 10, 10, 10, 1, 1, 1, 1, 1, 1, 1, 1, 5, 4, 12, 15, 2, 2, 2, 2, 11, 11, 11, 11, 10, 10, 1, 0, 10, 6, 10, 10, 10, 10, 10, 10, 10, 10, 11, 11]
def kT (k : Nat) : Nat := kTl.getD k 99
def kRl : List Nat := [0, 0, 0, 0, 0, 0, 0, 0, 0, 0, 0, 0, 0, 0, 0, 0, 0, 0, 0, 0, 0, 0, 0, 1, 1, 1, 1, 1, 1, 1, 1, 1, 1, 1, 1, 1, 1, 1, 1, 1, 1, 1, 1, 1, 1, 1, 2, 2, 2, 2, 2, 2, 2, 2, 2, 2, 2, 2, 2, 2, 2, 2, 2, 2, 2, 2, 2, 2, 2, 9, 7, 8, 0, 10, 11, 12, 13, 10, 11, 12, 13, 3, 4, 5, 6, 6, 25, 20, 21, 22, 23, 24, 26, 27, 28, 29, 30]
def kR (k : Nat) : Nat := kRl.getD k 99
def kOl : List Nat := [0, 0, 0, 7, 12, 17, 22, 27, 32, 7, 12, 17, 22, 27, 32, 37, 40, 43, 46, 49, 52, 55, 58, 0, 0, 0, 7, 12, 17, 22, 27, 32, 7, 12, 17, 22, 27, 32, 37, 40, 43, 46, 49, 52, 55, 58, 0, 0, 0, 7, 12, 17, 22, 27, 32, 7, 12, 17, 22, 27, 32, 37, 40, 43, 46, 49, 52, 55, 58, 0, 0, 0, 0, 0, 0, 0, 0, 0, 0, 0, 0, 0, 0, 0, 0, 0, 0, 0, 0, 0, 0, 0, 0, 0, 0, 0, 0]
def kO (k : Nat) : Nat := kOl.getD k 99
def kLl : List Nat := [0, 6, 8, 0, 0, 0, 0, 0, 0, 5, 5, 5, 5, 5, 5, 0, 0, 0, 0, 0, 0, 0, 0, 0, 6, 8, 0, 0, 0, 0, 0, 0, 5, 5, 5, 5, 5, 5, 0, 0, 0, 0, 0, 0, 0, 0, 0, 6, 8, 0, 0, 0, 0, 0, 0, 5, 5, 5, 5, 5, 5, 0, 0, 0, 0, 0, 0, 0, 0, 0, 0, 120, 4, 0, 0, 0, 0, 40, 40, 40, 40, 7, 400, 0, 0, 5, 0, 61, 61, 61, 61, 7, 120, 4, 4, 160, 40]
def kL (k : Nat) : Nat := kLl.getD k 99
def kNl : List Nat := [0, 0, 0, 9, 10, 11, 12, 13, 14, 0, 0, 0, 0, 0, 0, 0, 0, 0, 0, 0, 0, 0, 0, 0, 0, 0, 32, 33, 34, 35, 36, 37, 0, 0, 0, 0, 0, 0, 0, 0, 0, 0, 0, 0, 0, 0, 0, 0, 0, 55, 56, 57, 58, 59, 60, 0, 0, 0, 0, 0, 0, 0, 0, 0, 0, 0, 0, 0, 0, 0, 0, 0, 0, 0, 0, 0, 0, 0, 0, 0, 0, 0, 0, 0, 85, 0, 0, 0, 0, 0, 0, 0, 0, 0, 0, 0, 0]
def kN (k : Nat) : Nat := kNl.getD k 99
def owl : List Nat := [99, 99, 99, 81, 82, 83, 85, 70, 71, 69, 73, 74, 75, 76, 99, 99, 99, 99, 99, 99, 87, 88, 89, 90, 91, 86, 92, 93, 94]
def ow2l : List Nat := [99, 99, 99, 99, 99, 99, 99, 99, 99, 99, 77, 78, 79, 80, 99, 99, 99, 99, 99, 99, 99, 99, 99, 99, 99, 99, 99, 99, 99, 95, 96]
def ow (r b : Nat) : Nat := if r < 3 then (if b < 7 then 23 * r else if b < 37 then 23 * r + 9 + (b - 7) / 5 else 23 * r + 15 + (b - 37) / 3) else owl.getD r 99
def ow2 (r : Nat) : Nat := ow2l.getD r 99
def cn (k : Nat) : Nat := match kT k with | 1 => 3 | 2 => 2 | 3 => 7 | 4 => 5 | 5 => 1 | 6 => 6 | 10 => kL k | 12 => kL k | _ => 0
def cl (k : Nat) : Nat := match kT k with | 11 => kL k | _ => 0
def mk1 (n : Nat) (f : Nat → Int32) : Nat → Int32 := fun i => if i < n then f i else 0
def mk2 (n : Nat) (f : Nat → Int64) : Nat → Int64 := fun i => if i < n then f i else 0
/-- an object's fields: its class's number, its own, its ints -/
def fl (ad : Nat → Nat) (k : Nat) (g : Nat → Int32) (t : Nat) : List Value := match t with
  | 0 => [.ref (ad (kN k))]
  | 1 => [.int (g 0), .int (g 1), .int (g 2)]
  | 2 => [.int (g 0), .int (g 1), .ref (ad (k + 4))]
  | 3 => [.int (g 2), .int (g 3), .int (g 4), .int (g 5), .int (g 6), .int (g 0), .int (g 1), .ref (ad (k + 1)), .ref (ad (k + 2))]
  | 4 => [.ref (ad 71), .int (g 0), .ref (ad 46), .int (g 1), .int (g 2), .int (g 3), .int (g 4)]
  | 5 => [.ref (ad 0), .ref (ad 23), .int (g 0), .ref (ad 70), .ref (ad 72), .ref (ad 81), .ref (ad 82), .ref (ad 83), .ref (ad 84)]
  | 6 => [.ref (ad 87), .ref (ad 88), .ref (ad 89), .ref (ad 90), .ref (ad 91), .int (g 0), .ref (ad 92), .int (g 1), .int (g 2), .int (g 3), .int (g 4), .int (g 5), .ref (ad 93), .ref (ad 94), .ref (ad 95), .ref (ad 96)]
  | _ => []
def cellF (ad : Nat → Nat) (cA : Nat → ClassId) (k : Nat) (g : Nat → Int32) (h : Nat → Int64) : va_E := match kT k with
  | 10 => .inl (cA 0, kL k, .inl (mk1 (kL k) g))
  | 11 => .inl (cA 1, kL k, .inr (.inl (mk2 (kL k) h)))
  | 12 => .inl (cA 2, kL k, .inl (mk1 (kL k) g))
  | 13 => .inl (cA 3, 6, .inr (.inr (.inr (.inr (fun i => some (ad (k + 2 + i)))))))
  | 14 => .inl (cA 4, 8, .inr (.inr (.inr (.inr (fun i => some (ad (k + 13 + i)))))))
  | 15 => .inl (cA 5, 4, .inr (.inr (.inr (.inr (fun i => some (ad (73 + i)))))))
  | t => .inr (t, fl ad k g t)
def gk (u : Uw) (k : Nat) : Nat → Int32 := fun j => u.1 (kR k) (kO k + j)
def hk (u : Uw) (k : Nat) : Nat → Int64 := fun j => u.2 (kR k) j
def cellE (ad : Nat → Nat) (cA : Nat → ClassId) (u : Uw) (k : Nat) : va_E := cellF ad cA k (gk u k) (hk u k)
def wl (ad : Nat → Nat) (cA : Nat → ClassId) (u : Uw) : va_W := (List.range 97).map fun k => (ad k, cellE ad cA u k)
theorem wl_get {ad : Nat → Nat} {cA : Nat → ClassId} {u : Uw} {k : Nat} (h : k < 97) : (wl ad cA u)[k]? = some (ad k, cellE ad cA u k) := by simp [wl, h]
theorem kT_lt {k : Nat} (h : kT k ≠ 99) : k < 97 := by
  rcases Nat.lt_or_ge k 97 with q | q
  · exact q
  · exact absurd (by unfold kT; rw [List.getD_eq_getElem?_getD, List.getElem?_eq_none (show kTl.length ≤ k from q)]; rfl) h
theorem ty_cases : ∀ k, k < 97 → kT k = 0 ∨ kT k = 1 ∨ kT k = 2 ∨ kT k = 3 ∨ kT k = 4 ∨ kT k = 5 ∨ kT k = 6 ∨ kT k = 10 ∨ kT k = 11 ∨ kT k = 12 ∨ kT k = 13 ∨ kT k = 14 ∨ kT k = 15 := by decide +kernel
theorem ow_ok : ∀ k, k < 97 → ∀ j, j < cn k → ow (kR k) (kO k + j) = k := by decide +kernel
theorem ow2_ok : ∀ k, k < 97 → kT k = 11 → ow2 (kR k) = k := by decide +kernel
theorem mk1_congr {n : Nat} {f g : Nat → Int32} (h : ∀ j, j < n → f j = g j) : mk1 n f = mk1 n g := by
  funext i
  unfold mk1
  split
  · exact h i (by assumption)
  · rfl
theorem mk2_congr {n : Nat} {f g : Nat → Int64} (h : ∀ j, j < n → f j = g j) : mk2 n f = mk2 n g := by
  funext i
  unfold mk2
  split
  · exact h i (by assumption)
  · rfl
theorem cellF_congr {ad : Nat → Nat} {cA : Nat → ClassId} {k : Nat} {g g' : Nat → Int32} {h h' : Nat → Int64} (hk : k < 97) (hg : ∀ j, j < cn k → g j = g' j) (hh : ∀ j, j < cl k → h j = h' j) : cellF ad cA k g h = cellF ad cA k g' h' := by
  rcases ty_cases k hk with q | q | q | q | q | q | q | q | q | q | q | q | q <;> simp only [cn, cl, q] at hg hh <;> simp only [cellF, fl, q]
  · rw [hg 0 (by decide), hg 1 (by decide), hg 2 (by decide)]
  · rw [hg 0 (by decide), hg 1 (by decide)]
  · rw [hg 0 (by decide), hg 1 (by decide), hg 2 (by decide), hg 3 (by decide), hg 4 (by decide), hg 5 (by decide), hg 6 (by decide)]
  · rw [hg 0 (by decide), hg 1 (by decide), hg 2 (by decide), hg 3 (by decide), hg 4 (by decide)]
  · rw [hg 0 (by decide)]
  · rw [hg 0 (by decide), hg 1 (by decide), hg 2 (by decide), hg 3 (by decide), hg 4 (by decide), hg 5 (by decide)]
  · rw [mk1_congr hg]
  · rw [mk2_congr hh]
  · rw [mk1_congr hg]
/-- one cell's numbers change, all else stays -/
theorem wl_set {ad : Nat → Nat} {cA : Nat → ClassId} {u u' : Uw} {k : Nat} {e : va_E} (hk : k < 97) (he : cellE ad cA u' k = e) (ho : ∀ i, i < 97 → i ≠ k → cellE ad cA u' i = cellE ad cA u i) : (wl ad cA u).set k (ad k, e) = wl ad cA u' := by
  refine List.ext_getElem? fun i => ?_
  by_cases hi : i < 97
  · by_cases h : i = k
    · subst h
      rw [List.getElem?_set_self (by simp [wl, hi]), wl_get hi, he]
    · rw [List.getElem?_set_ne (Ne.symm h), wl_get hi, wl_get hi, ho i hi h]
  · have a1 : ((wl ad cA u).set k (ad k, e))[i]? = none := by simp [wl]; omega
    have a2 : (wl ad cA u')[i]? = none := by simp [wl]; omega
    rw [a1, a2]
theorem other1 {ad : Nat → Nat} {cA : Nat → ClassId} {u : Uw} {k i j : Nat} {x : Int32} (hk : k < 97) (hj : j < cn k) (hi : i < 97) (h : i ≠ k) : cellE ad cA (w1 u (kR k) (kO k + j) x) i = cellE ad cA u i := by
  refine cellF_congr hi (fun a ha => ?_) (fun _ _ => rfl)
  show (if kR i = kR k ∧ kO i + a = kO k + j then x else u.1 (kR i) (kO i + a)) = _
  rw [if_neg]
  · rfl
  · rintro ⟨h1, h2⟩
    refine h ?_
    rw [← ow_ok i hi a ha, h1, h2, ow_ok k hk j hj]
theorem gk_w1 {u : Uw} {k j : Nat} {x : Int32} : gk (w1 u (kR k) (kO k + j) x) k = fun i => if i = j then x else gk u k i := by
  funext i
  show (if kR k = kR k ∧ kO k + i = kO k + j then x else u.1 (kR k) (kO k + i)) = _
  by_cases h : i = j
  · subst h; simp
  · rw [if_neg (by omega), if_neg h]; rfl
theorem hk_w1 {u : Uw} {k i r b : Nat} {x : Int32} : hk (w1 u r b x) k i = hk u k i := rfl
theorem other2 {ad : Nat → Nat} {cA : Nat → ClassId} {u : Uw} {k i j : Nat} {x : Int64} (hk' : k < 97) (ht : kT k = 11) (hi : i < 97) (h : i ≠ k) : cellE ad cA (w2 u (kR k) j x) i = cellE ad cA u i := by
  refine cellF_congr hi (fun _ _ => rfl) (fun a ha => ?_)
  show (if kR i = kR k ∧ a = j then x else u.2 (kR i) a) = _
  rw [if_neg]
  · rfl
  · rintro ⟨h1, h2⟩
    have hi2 : kT i = 11 := by
      by_cases q : kT i = 11
      · exact q
      · exfalso
        rcases ty_cases i hi with q | q | q | q | q | q | q | q | q | q | q | q | q <;> simp_all [cl]
    refine h ?_
    rw [← ow2_ok i hi hi2, h1, ow2_ok k hk' ht]
theorem otherc1 {ad : Nat → Nat} {cA : Nat → ClassId} {u : Uw} {f : Nat → Int32} {k i j n : Nat} (hk : k < 97) (hj : j + n ≤ cn k) (hi : i < 97) (h : i ≠ k) : cellE ad cA (cp1 u f (kR k) (kO k + j) n) i = cellE ad cA u i := by
  refine cellF_congr hi (fun a ha => ?_) (fun _ _ => rfl)
  show (if kR i = kR k ∧ kO k + j ≤ kO i + a ∧ kO i + a < kO k + j + n then f (kO i + a - (kO k + j)) else u.1 (kR i) (kO i + a)) = _
  rw [if_neg]
  · rfl
  · rintro ⟨h1, h2, h3⟩
    refine h ?_
    have h4 : kO i + a = kO k + (kO i + a - kO k) := by omega
    rw [← ow_ok i hi a ha, h1, h4, ow_ok k hk _ (by omega)]
theorem otherc2 {ad : Nat → Nat} {cA : Nat → ClassId} {u : Uw} {f : Nat → Int64} {k i j n : Nat} (hk' : k < 97) (ht : kT k = 11) (hi : i < 97) (h : i ≠ k) : cellE ad cA (cp2 u f (kR k) j n) i = cellE ad cA u i := by
  refine cellF_congr hi (fun _ _ => rfl) (fun a ha => ?_)
  show (if kR i = kR k ∧ j ≤ a ∧ a < j + n then f (a - j) else u.2 (kR i) a) = _
  rw [if_neg]
  · rfl
  · rintro ⟨h1, h2⟩
    have hi2 : kT i = 11 := by
      by_cases q : kT i = 11
      · exact q
      · exfalso
        rcases ty_cases i hi with q | q | q | q | q | q | q | q | q | q | q | q | q <;> simp_all [cl]
    refine h ?_
    rw [← ow2_ok i hi hi2, h1, ow2_ok k hk' ht]
def injA (ad : Nat → Nat) : Prop := ∀ i j, i < 97 → j < 97 → ad i = ad j → i = j
def Aw (ad : Nat → Nat) : Nat → Prop := fun q => ∃ k, k < 97 ∧ q = ad k
theorem wl_D {ad : Nat → Nat} {cA : Nat → ClassId} {u : Uw} (h : injA ad) : va_D (Aw ad) (wl ad cA u) := by
  have key : ∀ (i : Nat) (p : Nat × va_E), (wl ad cA u)[i]? = some p → i < 97 ∧ p.1 = ad i := by
    intro i p hp
    have hi : i < 97 := by
      have := (List.getElem?_eq_some_iff.mp hp).1
      simpa [wl] using this
    rw [wl_get hi] at hp
    cases hp
    exact ⟨hi, rfl⟩
  refine ⟨fun i j p q hi hj hpq => ?_, fun k q hk => ?_⟩
  · obtain ⟨a1, a2⟩ := key i p hi
    obtain ⟨b1, b2⟩ := key j q hj
    exact h i j a1 b1 (by rw [← a2, ← b2, hpq])
  · obtain ⟨a1, a2⟩ := key k q hk
    exact ⟨k, a1, a2⟩
def tys (cA : Nat → ClassId) : List (ClassId × FieldType) := [(cA 0, .int), (cA 1, .long), (cA 2, .byte), (cA 3, .object RX0), (cA 4, .object RX1), (cA 5, .object RX2)]
/-- the words that a contract hands on: those of the tables that stay -/
def GW : List Cond := lw_tbl.filter goodWord
theorem GW_in {w : Cond} (h : w ∈ lw_tbl) (hg : goodWord w = true) : w ∈ GW := List.mem_filter.mpr ⟨h, hg⟩
theorem GW_good {w : Cond} (h : w ∈ GW) : (w.onTables && w.keeps) = true ∨ ∃ ty, w = .arrayClass ty := good_of_word (List.mem_filter.mp h).2
theorem GW_pay {args : Array Value} {s : State} (hts : ∀ w ∈ GW, w.before args s = true) : ∀ w ∈ GW, ∀ (a' : Array Value) (U : State), s.WarmedH U.vm → w.before a' U = true := fun w hw _ _ hW => word_at hW (GW_good hw) (hts w hw)

def stI : List Nat := [46, 55, 60, 90, 98, 99, 101, 117, 131, 133, 135, 137, 139, 141]
def stT : List String := ["pilgrim", "truth", "power", "begin", "length", "left", "reform", "trusts", "count", "old", "new", "cog", "leap", "monk"]
def stL : List Nat := [7, 5, 5, 5, 6, 4, 6, 6, 5, 3, 3, 3, 4, 4]
def stB : List (List Int32) := [[112, 105, 108, 103, 114, 105, 109], [116, 114, 117, 116, 104], [112, 111, 119, 101, 114], [98, 101, 103, 105, 110], [108, 101, 110, 103, 116, 104], [108, 101, 102, 116], [114, 101, 102, 111, 114, 109], [116, 114, 117, 115, 116, 115], [99, 111, 117, 110, 116], [111, 108, 100], [110, 101, 119], [99, 111, 103], [108, 101, 97, 112], [109, 111, 110, 107]]
def tbl3 : List (List Int32) := [[0, 0, 1, 0, 0], [5, 99, 60, 99, 9999], [0, 0, 30, 11, 50]]
def tbv (t j : Nat) : Int32 := (tbl3.getD t []).getD j 0
def tbn (t : Nat) : String := ["LEAST", "MOST", "FIRST"].getD t ""
def NW : List Cond := [Cond.fieldLinkNest "EvenSpring" 128 "EvenSpring$Pilgrim" "ill" "I" "EvenSpring", Cond.fieldLinkNest "EvenSpring$Spring" 92 "EvenSpring$Pilgrim" "ill" "I" "EvenSpring", Cond.fieldLinkNest "EvenSpring" 131 "EvenSpring$Pilgrim" "trusts" "I" "EvenSpring", Cond.fieldLinkNest "EvenSpring" 134 "EvenSpring$Pilgrim" "bathed" "I" "EvenSpring", Cond.fieldLinkNest "EvenSpring$Spring" 95 "EvenSpring$Pilgrim" "bathed" "I" "EvenSpring", Cond.fieldLinkNest "EvenSpring" 146 "EvenSpring$Spring" "day" "I" "EvenSpring", Cond.fieldLinkNest "EvenSpring$SpringText" 77 "EvenSpring$Spring" "power" "I" "EvenSpring", Cond.fieldLinkNest "EvenSpring" 108 "EvenSpring$Spring" "power" "I" "EvenSpring", Cond.fieldLinkNest "EvenSpring$SpringText" 75 "EvenSpring$Spring" "truth" "I" "EvenSpring", Cond.fieldLinkNest "EvenSpring" 111 "EvenSpring$Spring" "truth" "I" "EvenSpring", Cond.fieldLinkNest "EvenSpring" 167 "EvenSpring$Spring" "good" "I" "EvenSpring", Cond.fieldLinkNest "EvenSpring" 170 "EvenSpring$Spring" "bad" "I" "EvenSpring", Cond.fieldLinkNest "EvenSpring" 63 "EvenSpring$Spring" "calendarCount" "I" "EvenSpring", Cond.fieldLinkNest "EvenSpring$SpringText" 83 "EvenSpring$Spring" "calendarCount" "I" "EvenSpring", Cond.fieldLinkNest "EvenSpring$SpringText" 114 "EvenSpring$Spring" "pilgrimCount" "I" "EvenSpring", Cond.fieldLinkNest "EvenSpring" 117 "EvenSpring$Spring" "pilgrimCount" "I" "EvenSpring", Cond.fieldLinkNest "EvenSpring" 216 "EvenSpring$SpringText" "length" "I" "EvenSpring", Cond.fieldLinkNest "EvenSpring" 227 "EvenSpring$SpringText" "told" "LEvenSpring$Spring;" "EvenSpring", Cond.fieldLinkNest "EvenSpring" 259 "EvenSpring$Sheet" "bits" "I" "EvenSpring", Cond.fieldLinkNest "EvenSpring" 243 "EvenSpring$Sheet" "size" "I" "EvenSpring", Cond.fieldLinkNest "EvenSpring" 265 "EvenSpring$Sheet" "numbers" "[J" "EvenSpring", Cond.methodLinkNest "EvenSpring$Pilgrim" 34 yX5_isIn "EvenSpring", Cond.methodLinkNest "EvenSpring$Spring" 78 yX5_isIn "EvenSpring", Cond.methodLinkNest "EvenSpring$SpringText" 123 yX5_within "EvenSpring"]
theorem NW_on : ∀ w ∈ NW, w.onTables = true := by decide +kernel
theorem NW_warm {s U : State} (hW : s.WarmedH U.vm) (h : ∀ w ∈ NW, va_Nw w s) : ∀ w ∈ NW, va_Nw w U := by
  have h2 := h
  unfold NW at h2 ⊢
  simp only [List.forall_mem_cons] at h2 ⊢
  obtain ⟨a0, a1, a2, a3, a4, a5, a6, a7, a8, a9, a10, a11, a12, a13, a14, a15, a16, a17, a18, a19, a20, a21, a22, a23, -⟩ := h2
  exact ⟨va_Nw.warmF hW a0, va_Nw.warmF hW a1, va_Nw.warmF hW a2, va_Nw.warmF hW a3, va_Nw.warmF hW a4, va_Nw.warmF hW a5, va_Nw.warmF hW a6, va_Nw.warmF hW a7, va_Nw.warmF hW a8, va_Nw.warmF hW a9, va_Nw.warmF hW a10, va_Nw.warmF hW a11, va_Nw.warmF hW a12, va_Nw.warmF hW a13, va_Nw.warmF hW a14, va_Nw.warmF hW a15, va_Nw.warmF hW a16, va_Nw.warmF hW a17, va_Nw.warmF hW a18, va_Nw.warmF hW a19, va_Nw.warmF hW a20, va_Nw.warmM hW a21, va_Nw.warmM hW a22, va_Nw.warmM hW a23, fun _ h => absurd h List.not_mem_nil⟩
/-- what was there before: at the codes 100 + t the three tables, 110 + i the texts, 130 + i their bytes -/
def St (ad : Nat → Nat) (U : State) (H : Heap) : Prop :=
  (∀ w ∈ NW, va_Nw w U) ∧ (∀ t, t < 3 → va_Z RX0 (tbn t) "[I" (.ref (ad (100 + t))) (Aw ad) U H ∧ va_T .int (ad (100 + t)) 5 (fun j => .int (tbv t j)) (Aw ad) U H) ∧
  vk_S 14 stL stB (fun i => ad (110 + i)) (fun i => ad (130 + i)) (Aw ad) U H ∧ (∀ i, i < 14 → vk_R RX4 (stI.getD i 0) (stT.getD i "") (ad (110 + i)) U) ∧
  va_Z "java/lang/String" "COMPACT_STRINGS" "Z" (.int 1) (Aw ad) U H ∧ ∃ q : Option Nat, va_Z "jdk/internal/util/Preconditions" "SIOOBE_FORMATTER" "Ljava/util/function/BiFunction;" (va_rf q) (Aw ad) U H
theorem St.kept {ad : Nat → Nat} {U : State} {H H1 : Heap} (h : St ad U H) (hq : ∀ a : Nat, a < H.size → ¬ Aw ad a → H1[a]? = H[a]?) : St ad U H1 :=
  ⟨h.1, fun t ht => ⟨(h.2.1 t ht).1.kept hq, (h.2.1 t ht).2.kept hq⟩, h.2.2.1.kept hq, h.2.2.2.1, h.2.2.2.2.1.kept hq, h.2.2.2.2.2.elim fun q hz => ⟨q, hz.kept hq⟩⟩
theorem St.warm {ad : Nat → Nat} {s U : State} {H : Heap} (hW : s.WarmedH U.vm) (h : St ad s H) : St ad U H :=
  ⟨NW_warm hW h.1, fun t ht => ⟨(h.2.1 t ht).1.moved hW.alike, (h.2.1 t ht).2.moved hW.alike⟩, h.2.2.1.moved hW.alike, fun i hi => (h.2.2.2.1 i hi).warm hW, h.2.2.2.2.1.moved hW.alike, h.2.2.2.2.2.elim fun q hz => ⟨q, hz.moved hW.alike⟩⟩
theorem St.same {ad : Nat → Nat} {u U : State} {H : Heap} (hv : u.vm = U.vm) (h : St ad u H) : St ad U H := by
  have ha : u.vm.Alike U.vm := by rw [hv]; exact Vm.Alike.refl _
  exact ⟨fun w hw => (h.1 w hw).same (NW_on w hw) hv, fun t ht => ⟨(h.2.1 t ht).1.moved ha, (h.2.1 t ht).2.moved ha⟩, h.2.2.1.moved ha, fun i hi => (h.2.2.2.1 i hi).same hv.symm, h.2.2.2.2.1.moved ha, h.2.2.2.2.2.elim fun q hz => ⟨q, hz.moved ha⟩⟩
/-- the world at a state -/
def Wd (ad : Nat → Nat) (D : va_G) (cA : Nat → ClassId) (u : Uw) (U : State) : Prop := va_P D vwCl (wl ad cA u) U.heap ∧ va_K D vwCl (tys cA) U ∧ injA ad ∧ St ad U U.heap
/-- a method: its bytes, its class, its locals, its answer's type, its room -/
abbrev Mi : Type := ByteArray × String × Nat × Option FieldType × Room
def QW (ad : Nat → Nat) (D : va_G) (cA : Nat → ClassId) (v : Option Value) (u2 : Uw) : Array Value → State → Outcome → State → Prop := fun _ st oc t => oc = .returned v ∧ va_P D vwCl (wl ad cA u2) t.heap ∧ va_F (Aw ad) st t
abbrev Cx : Type := Program × Launch × Env × State × MethodId × Array Value × List Frame × Method × Code × va_G × (Nat → ClassId)
def Ok (X : Cx) (ad : Nat → Nat) (M : Mi) : Prop := match X with
  | (p, _, _, s, m, args, _, meth, c, D, cA) => p.tables.exec = Jvm.exec ∧ c.code = M.1 ∧ c.maxLocals = M.2.2.1 ∧ s.vm.findClass M.2.1 = some m.cls ∧ (∀ w ∈ GW, w.before args s = true) ∧ meth.locks = false ∧ meth.sig.returnType = M.2.2.2.1 ∧ injA ad ∧ va_K D vwCl (tys cA) s ∧ St ad s s.heap
/-- from pc on, with these locals, this stack, this world, the method comes to its end and answers o -/
def Go (X : Cx) (ad : Nat → Nat) (M : Mi) {α : Type} (iv : (Nat → Nat) → α → Option Value) (pc : Nat) (lv : List (Nat × Value)) (st : List Value) (u : Uw) (o : Option (α × Uw)) : Prop := match X with
  | (p, l, e, s, m, args, below, meth, c, D, cA) => Ok (p, l, e, s, m, args, below, meth, c, D, cA) ad M → ∀ (r : α) (u2 : Uw), o = some (r, u2) → ∀ (H : Heap) (locs : List Loc) (ls : Array Slot), va_P D vwCl (wl ad cA u) H → va_S (Aw ad) s.heap H locs → lv_has ls M.2.2.1 lv →
    W p l e M.2.2.2.2 s m args below meth c H locs 0 0 (MQ below (QW ad D cA (iv ad r) u2) args s 0 0 (Aw ad)) (F0 m pc ls st)
/-- a method's contract -/
def Con (l : Launch) (y : MethodName) (M : Mi) {α : Type} (iv : (Nat → Nat) → α → Option Value) (As : (Nat → Nat) → List Value) (u : Uw) (o : Option (α × Uw)) : Prop :=
  ∀ (ad : Nat → Nat) (D : va_G) (cA : Nat → ClassId) (r : α) (u2 : Uw), o = some (r, u2) → Met l y (Cond.code y M.1 M.2.2.1 M.2.2.2.1 :: GW) M.2.2.2.2 (va_Pc (As ad) (Wd ad D cA u)) (QW ad D cA (iv ad r) u2) 0 0 (Aw ad)
def bI (b : Bool) : Int32 := if b then 1 else 0
def cI (c : UInt16) : Int32 := c.toUInt32.toInt32
abbrev ivI (_ : Nat → Nat) (x : Int32) : Option Value := some (.int x)
abbrev ivZ (_ : Nat → Nat) (b : Bool) : Option Value := some (.int (bI b))
abbrev ivC (_ : Nat → Nat) (c : UInt16) : Option Value := some (.int (cI c))
abbrev ivL (_ : Nat → Nat) (x : Int64) : Option Value := some (.long x)
abbrev ivV (_ : Nat → Nat) (_ : Unit) : Option Value := none
abbrev ivR (ad : Nat → Nat) (r : Option Nat) : Option Value := some (va_re ad r)
def ck {α : Type} (c : Bool) (o : Option α) : Option α := if c = true then o else none
def nm {α β : Type} (v : α) (f : α → β) : β := f v
def inb (i : Int32) (n : Nat) : Bool := !(decide (i < 0) || decide (n ≤ i.toNatClampNeg))
theorem inb_in {i : Int32} {n : Nat} (h : inb i n = true) : vp_in i n := by
  unfold inb at h
  unfold vp_in
  simp only [Bool.not_eq_true', Bool.or_eq_false_iff, decide_eq_false_iff_not] at h
  exact fun q => q.elim h.1 h.2
theorem inb_lt {i : Int32} {n : Nat} (h : inb i n = true) : i.toNatClampNeg < n := Nat.not_le.mp fun q => inb_in h (Or.inr q)
/-- a loop: so many turns at most -/
def lp {σ β : Type} (b : (σ → Option β) → σ → Option β) : Nat → σ → Option β
  | 0, _ => none
  | n + 1, s => b (lp b n) s
section GoRows
variable {X : Cx} {ad : Nat → Nat} {M : Mi} {α : Type} {iv : (Nat → Nat) → α → Option Value} {pc : Nat} {lv : List (Nat × Value)} {st : List Value} {u : Uw} {o : Option (α × Uw)}
theorem go_none : Go X ad M iv pc lv st u none := by
  obtain ⟨p, l, e, s, m, args, below, meth, c, D, cA⟩ := X
  intro _ r u2 ho
  cases ho
theorem go_ck {b : Bool} (k : b = true → Go X ad M iv pc lv st u o) : Go X ad M iv pc lv st u (ck b o) := by
  cases b with
  | false => exact go_none
  | true => exact k rfl
theorem go_nm {v : Int32} {f : Int32 → Option (α × Uw)} (k : ∀ x, Go X ad M iv pc lv (.int x :: st) u (f x)) : Go X ad M iv pc lv (.int v :: st) u (nm v f) := k v
theorem go_nmL {v : Int64} {f : Int64 → Option (α × Uw)} (k : ∀ x, Go X ad M iv pc lv (.long x :: st) u (f x)) : Go X ad M iv pc lv (.long v :: st) u (nm v f) := k v
theorem go_nmR {v : Nat} {f : Nat → Option (α × Uw)} (k : ∀ x, Go X ad M iv pc lv (.ref (ad x) :: st) u (f x)) : Go X ad M iv pc lv (.ref (ad v) :: st) u (nm v f) := k v
theorem go_nmU {f : Uw → Option (α × Uw)} (k : ∀ x, Go X ad M iv pc lv st x (f x)) : Go X ad M iv pc lv st u (nm u f) := k u
theorem go_ite {b : Prop} {d : Decidable b} {o1 o2 : Option (α × Uw)} (k1 : b → Go X ad M iv pc lv st u o1) (k2 : ¬ b → Go X ad M iv pc lv st u o2) : Go X ad M iv pc lv st u (@ite _ b d o1 o2) := by
  by_cases h : b
  · rw [if_pos h]; exact k1 h
  · rw [if_neg h]; exact k2 h
theorem go_sub {lv' : List (Nat × Value)} (ks : List Nat) (hl : lv_pick lv ks = lv') (k : Go X ad M iv pc lv' st u o) : Go X ad M iv pc lv st u o := by
  obtain ⟨p, l, e, s, m, args, below, meth, c, D, cA⟩ := X
  intro hok r u2 ho H locs ls hP hS h
  exact k hok r u2 ho H locs ls hP hS (lv_sub h ks hl)

theorem go_iconst {n : Int} {v : Int32} (d : decode M.1 pc = .ok (.iconst n, 1)) (hv : Int32.ofInt n = v) (k : Go X ad M iv (pc + 1) lv (.int v :: st) u o) : Go X ad M iv pc lv st u o := by
  obtain ⟨p, l, e, s, m, args, below, meth, c, D, cA⟩ := X
  intro hok r u2 ho H locs ls hP hS h
  exact lv_iconst hok.1 hok.2.1 d hv (k hok r u2 ho H locs ls hP hS h)
theorem go_bipush {n : Int} {v : Int32} (d : decode M.1 pc = .ok (.bipush n, 2)) (hv : (Int8.ofInt n).toInt32 = v) (k : Go X ad M iv (pc + 2) lv (.int v :: st) u o) : Go X ad M iv pc lv st u o := by
  obtain ⟨p, l, e, s, m, args, below, meth, c, D, cA⟩ := X
  intro hok r u2 ho H locs ls hP hS h
  exact lv_bipush hok.1 hok.2.1 d hv (k hok r u2 ho H locs ls hP hS h)
theorem go_sipush {n : Int} {v : Int32} (d : decode M.1 pc = .ok (.sipush n, 3)) (hv : (Int16.ofInt n).toInt32 = v) (k : Go X ad M iv (pc + 3) lv (.int v :: st) u o) : Go X ad M iv pc lv st u o := by
  obtain ⟨p, l, e, s, m, args, below, meth, c, D, cA⟩ := X
  intro hok r u2 ho H locs ls hP hS h
  exact lv_sipush hok.1 hok.2.1 d hv (k hok r u2 ho H locs ls hP hS h)
theorem go_lconst {n : Fin 2} {v : Int64} (d : decode M.1 pc = .ok (.lconst n, 1)) (hv : Int64.ofNat (n : Nat) = v) (k : Go X ad M iv (pc + 1) lv (.long v :: st) u o) : Go X ad M iv pc lv st u o := by
  obtain ⟨p, l, e, s, m, args, below, meth, c, D, cA⟩ := X
  intro hok r u2 ho H locs ls hP hS h
  exact lv_lconst hok.1 hok.2.1 d hv (k hok r u2 ho H locs ls hP hS h)
theorem go_null (d : decode M.1 pc = .ok (.aconst_null, 1)) (k : Go X ad M iv (pc + 1) lv (.null :: st) u o) : Go X ad M iv pc lv st u o := by
  obtain ⟨p, l, e, s, m, args, below, meth, c, D, cA⟩ := X
  intro hok r u2 ho H locs ls hP hS h
  exact lv_null hok.1 hok.2.1 d (k hok r u2 ho H locs ls hP hS h)
theorem go_ldc {index : Nat} {v : Int32} (w : Cond.constant M.2.1 index v ∈ GW) (d : decode M.1 pc = .ok (.ldc index, 2)) (k : Go X ad M iv (pc + 2) lv (.int v :: st) u o) : Go X ad M iv pc lv st u o := by
  obtain ⟨p, l, e, s, m, args, below, meth, c, D, cA⟩ := X
  intro hok r u2 ho H locs ls hP hS h
  exact lv_ldc hok.1 hok.2.1 hok.2.2.2.1 (hok.2.2.2.2.1 _ w) d (k hok r u2 ho H locs ls hP hS h)
theorem go_ldcw {index : Nat} {v : Int32} (w : Cond.constant M.2.1 index v ∈ GW) (d : decode M.1 pc = .ok (.ldc_w index, 3)) (k : Go X ad M iv (pc + 3) lv (.int v :: st) u o) : Go X ad M iv pc lv st u o := by
  obtain ⟨p, l, e, s, m, args, below, meth, c, D, cA⟩ := X
  intro hok r u2 ho H locs ls hP hS h
  exact lv_ldcw hok.1 hok.2.1 hok.2.2.2.1 (hok.2.2.2.2.1 _ w) d (k hok r u2 ho H locs ls hP hS h)
theorem go_ldc2 {index : Nat} {v : Int64} (w : Cond.constantLong M.2.1 index v ∈ GW) (d : decode M.1 pc = .ok (.ldc2_w index, 3)) (k : Go X ad M iv (pc + 3) lv (.long v :: st) u o) : Go X ad M iv pc lv st u o := by
  obtain ⟨p, l, e, s, m, args, below, meth, c, D, cA⟩ := X
  intro hok r u2 ho H locs ls hP hS h
  exact lv_ldc2 hok.1 hok.2.1 hok.2.2.2.1 (hok.2.2.2.2.1 _ w) d (k hok r u2 ho H locs ls hP hS h)
theorem go_iload_n {q : Fin 4} {i : Nat} {x : Int32} (p0 : Nat) (hv : lv[p0]? = some (i, .int x)) (d : decode M.1 pc = .ok (.iload_n q, 1)) (hi : (q : Nat) = i) (k : Go X ad M iv (pc + 1) lv (.int x :: st) u o) : Go X ad M iv pc lv st u o := by
  obtain ⟨p, l, e, s, m, args, below, meth, c, D, cA⟩ := X
  intro hok r u2 ho H locs ls hP hS h
  exact lv_iload_n hok.1 hok.2.1 d hi (lv_at h p0 hv) (k hok r u2 ho H locs ls hP hS h)
theorem go_iload {i : Nat} {x : Int32} (p0 : Nat) (hv : lv[p0]? = some (i, .int x)) (d : decode M.1 pc = .ok (.iload i, 2)) (k : Go X ad M iv (pc + 2) lv (.int x :: st) u o) : Go X ad M iv pc lv st u o := by
  obtain ⟨p, l, e, s, m, args, below, meth, c, D, cA⟩ := X
  intro hok r u2 ho H locs ls hP hS h
  exact lv_iload hok.1 hok.2.1 d (lv_at h p0 hv) (k hok r u2 ho H locs ls hP hS h)
theorem go_istore_n {q : Fin 4} {i : Nat} {x : Int32} {lv' : List (Nat × Value)} (d : decode M.1 pc = .ok (.istore_n q, 1)) (hi : (q : Nat) = i) (hn : i < M.2.2.1) (hl : (i, Value.int x) :: lv.filter (fun q => !(q.1 == i) && !(q.1 + 1 == i && q.2.category == 2)) = lv') (k : Go X ad M iv (pc + 1) lv' st u o) : Go X ad M iv pc lv (.int x :: st) u o := by
  obtain ⟨p, l, e, s, m, args, below, meth, c, D, cA⟩ := X
  intro hok r u2 ho H locs ls hP hS h
  exact lv_istore_n hok.1 hok.2.1 d hi h hn hl (fun ls' h' => k hok r u2 ho H locs ls' hP hS h')
theorem go_istore {i : Nat} {x : Int32} {lv' : List (Nat × Value)} (d : decode M.1 pc = .ok (.istore i, 2)) (hn : i < M.2.2.1) (hl : (i, Value.int x) :: lv.filter (fun q => !(q.1 == i) && !(q.1 + 1 == i && q.2.category == 2)) = lv') (k : Go X ad M iv (pc + 2) lv' st u o) : Go X ad M iv pc lv (.int x :: st) u o := by
  obtain ⟨p, l, e, s, m, args, below, meth, c, D, cA⟩ := X
  intro hok r u2 ho H locs ls hP hS h
  exact lv_istore hok.1 hok.2.1 d h hn hl (fun ls' h' => k hok r u2 ho H locs ls' hP hS h')
theorem go_lload_n {q : Fin 4} {i : Nat} {x : Int64} (p0 : Nat) (hv : lv[p0]? = some (i, .long x)) (d : decode M.1 pc = .ok (.lload_n q, 1)) (hi : (q : Nat) = i) (k : Go X ad M iv (pc + 1) lv (.long x :: st) u o) : Go X ad M iv pc lv st u o := by
  obtain ⟨p, l, e, s, m, args, below, meth, c, D, cA⟩ := X
  intro hok r u2 ho H locs ls hP hS h
  exact lv_lload_n hok.1 hok.2.1 d hi (lv_at h p0 hv) (k hok r u2 ho H locs ls hP hS h)
theorem go_lload {i : Nat} {x : Int64} (p0 : Nat) (hv : lv[p0]? = some (i, .long x)) (d : decode M.1 pc = .ok (.lload i, 2)) (k : Go X ad M iv (pc + 2) lv (.long x :: st) u o) : Go X ad M iv pc lv st u o := by
  obtain ⟨p, l, e, s, m, args, below, meth, c, D, cA⟩ := X
  intro hok r u2 ho H locs ls hP hS h
  exact lv_lload hok.1 hok.2.1 d (lv_at h p0 hv) (k hok r u2 ho H locs ls hP hS h)
theorem go_lstore_n {q : Fin 4} {i : Nat} {x : Int64} {lv' : List (Nat × Value)} (d : decode M.1 pc = .ok (.lstore_n q, 1)) (hi : (q : Nat) = i) (hn : i + 1 < M.2.2.1) (hl : (i, Value.long x) :: lv.filter (fun q => !(q.1 == i) && (!(q.1 == i + 1) && !(q.1 + 1 == i && q.2.category == 2))) = lv') (k : Go X ad M iv (pc + 1) lv' st u o) : Go X ad M iv pc lv (.long x :: st) u o := by
  obtain ⟨p, l, e, s, m, args, below, meth, c, D, cA⟩ := X
  intro hok r u2 ho H locs ls hP hS h
  exact lv_lstore_n hok.1 hok.2.1 d hi h hn hl (fun ls' h' => k hok r u2 ho H locs ls' hP hS h')
theorem go_lstore {i : Nat} {x : Int64} {lv' : List (Nat × Value)} (d : decode M.1 pc = .ok (.lstore i, 2)) (hn : i + 1 < M.2.2.1) (hl : (i, Value.long x) :: lv.filter (fun q => !(q.1 == i) && (!(q.1 == i + 1) && !(q.1 + 1 == i && q.2.category == 2))) = lv') (k : Go X ad M iv (pc + 2) lv' st u o) : Go X ad M iv pc lv (.long x :: st) u o := by
  obtain ⟨p, l, e, s, m, args, below, meth, c, D, cA⟩ := X
  intro hok r u2 ho H locs ls hP hS h
  exact lv_lstore hok.1 hok.2.1 d h hn hl (fun ls' h' => k hok r u2 ho H locs ls' hP hS h')
theorem go_aload_n {q : Fin 4} {i : Nat} {x : Nat} (p0 : Nat) (hv : lv[p0]? = some (i, .ref x)) (d : decode M.1 pc = .ok (.aload_n q, 1)) (hi : (q : Nat) = i) (k : Go X ad M iv (pc + 1) lv (.ref x :: st) u o) : Go X ad M iv pc lv st u o := by
  obtain ⟨p, l, e, s, m, args, below, meth, c, D, cA⟩ := X
  intro hok r u2 ho H locs ls hP hS h
  exact lv_aload_n hok.1 hok.2.1 d hi (lv_at h p0 hv) (k hok r u2 ho H locs ls hP hS h)
theorem go_aload {i : Nat} {x : Nat} (p0 : Nat) (hv : lv[p0]? = some (i, .ref x)) (d : decode M.1 pc = .ok (.aload i, 2)) (k : Go X ad M iv (pc + 2) lv (.ref x :: st) u o) : Go X ad M iv pc lv st u o := by
  obtain ⟨p, l, e, s, m, args, below, meth, c, D, cA⟩ := X
  intro hok r u2 ho H locs ls hP hS h
  exact lv_aload hok.1 hok.2.1 d (lv_at h p0 hv) (k hok r u2 ho H locs ls hP hS h)
theorem go_astore_n {q : Fin 4} {i : Nat} {x : Nat} {lv' : List (Nat × Value)} (d : decode M.1 pc = .ok (.astore_n q, 1)) (hi : (q : Nat) = i) (hn : i < M.2.2.1) (hl : (i, Value.ref x) :: lv.filter (fun q => !(q.1 == i) && !(q.1 + 1 == i && q.2.category == 2)) = lv') (k : Go X ad M iv (pc + 1) lv' st u o) : Go X ad M iv pc lv (.ref x :: st) u o := by
  obtain ⟨p, l, e, s, m, args, below, meth, c, D, cA⟩ := X
  intro hok r u2 ho H locs ls hP hS h
  exact lv_astore_n hok.1 hok.2.1 d hi h hn hl (fun ls' h' => k hok r u2 ho H locs ls' hP hS h')
theorem go_astore {i : Nat} {x : Nat} {lv' : List (Nat × Value)} (d : decode M.1 pc = .ok (.astore i, 2)) (hn : i < M.2.2.1) (hl : (i, Value.ref x) :: lv.filter (fun q => !(q.1 == i) && !(q.1 + 1 == i && q.2.category == 2)) = lv') (k : Go X ad M iv (pc + 2) lv' st u o) : Go X ad M iv pc lv (.ref x :: st) u o := by
  obtain ⟨p, l, e, s, m, args, below, meth, c, D, cA⟩ := X
  intro hok r u2 ho H locs ls hP hS h
  exact lv_astore hok.1 hok.2.1 d h hn hl (fun ls' h' => k hok r u2 ho H locs ls' hP hS h')
theorem go_aload_nN {q : Fin 4} {i : Nat} (p0 : Nat) (hv : lv[p0]? = some (i, .null)) (d : decode M.1 pc = .ok (.aload_n q, 1)) (hi : (q : Nat) = i) (k : Go X ad M iv (pc + 1) lv (.null :: st) u o) : Go X ad M iv pc lv st u o := by
  obtain ⟨p, l, e, s, m, args, below, meth, c, D, cA⟩ := X
  intro hok r u2 ho H locs ls hP hS h
  exact lv_aload_nN hok.1 hok.2.1 d hi (lv_at h p0 hv) (k hok r u2 ho H locs ls hP hS h)
theorem go_aloadN {i : Nat} (p0 : Nat) (hv : lv[p0]? = some (i, .null)) (d : decode M.1 pc = .ok (.aload i, 2)) (k : Go X ad M iv (pc + 2) lv (.null :: st) u o) : Go X ad M iv pc lv st u o := by
  obtain ⟨p, l, e, s, m, args, below, meth, c, D, cA⟩ := X
  intro hok r u2 ho H locs ls hP hS h
  exact lv_aloadN hok.1 hok.2.1 d (lv_at h p0 hv) (k hok r u2 ho H locs ls hP hS h)
theorem go_astore_nN {q : Fin 4} {i : Nat} {lv' : List (Nat × Value)} (d : decode M.1 pc = .ok (.astore_n q, 1)) (hi : (q : Nat) = i) (hn : i < M.2.2.1) (hl : (i, Value.null) :: lv.filter (fun q => !(q.1 == i) && !(q.1 + 1 == i && q.2.category == 2)) = lv') (k : Go X ad M iv (pc + 1) lv' st u o) : Go X ad M iv pc lv (.null :: st) u o := by
  obtain ⟨p, l, e, s, m, args, below, meth, c, D, cA⟩ := X
  intro hok r u2 ho H locs ls hP hS h
  exact lv_astore_nN hok.1 hok.2.1 d hi h hn hl (fun ls' h' => k hok r u2 ho H locs ls' hP hS h')
theorem go_astoreN {i : Nat} {lv' : List (Nat × Value)} (d : decode M.1 pc = .ok (.astore i, 2)) (hn : i < M.2.2.1) (hl : (i, Value.null) :: lv.filter (fun q => !(q.1 == i) && !(q.1 + 1 == i && q.2.category == 2)) = lv') (k : Go X ad M iv (pc + 2) lv' st u o) : Go X ad M iv pc lv (.null :: st) u o := by
  obtain ⟨p, l, e, s, m, args, below, meth, c, D, cA⟩ := X
  intro hok r u2 ho H locs ls hP hS h
  exact lv_astoreN hok.1 hok.2.1 d h hn hl (fun ls' h' => k hok r u2 ho H locs ls' hP hS h')
theorem go_iinc {i : Nat} {n : Int} {x v : Int32} {lv' : List (Nat × Value)} (p0 : Nat) (hv : lv[p0]? = some (i, .int x)) (d : decode M.1 pc = .ok (.iinc i n, 3)) (he : x + Int32.ofInt n = v) (hn : i < M.2.2.1) (hl : (i, Value.int v) :: lv.filter (fun q => !(q.1 == i) && !(q.1 + 1 == i && q.2.category == 2)) = lv') (k : Go X ad M iv (pc + 3) lv' st u o) : Go X ad M iv pc lv st u o := by
  obtain ⟨p, l, e, s, m, args, below, meth, c, D, cA⟩ := X
  intro hok r u2 ho H locs ls hP hS h
  exact lv_iinc hok.1 hok.2.1 d h hv he hn hl (fun ls' h' => k hok r u2 ho H locs ls' hP hS h')
theorem go_iadd {x y : Int32} (d : decode M.1 pc = .ok (.iadd, 1)) (k : Go X ad M iv (pc + 1) lv (.int (x + y) :: st) u o) : Go X ad M iv pc lv (.int y :: .int x :: st) u o := by
  obtain ⟨p, l, e, s, m, args, below, meth, c, D, cA⟩ := X
  intro hok r u2 ho H locs ls hP hS h
  exact lv_iadd hok.1 hok.2.1 d (k hok r u2 ho H locs ls hP hS h)
theorem go_isub {x y : Int32} (d : decode M.1 pc = .ok (.isub, 1)) (k : Go X ad M iv (pc + 1) lv (.int (x - y) :: st) u o) : Go X ad M iv pc lv (.int y :: .int x :: st) u o := by
  obtain ⟨p, l, e, s, m, args, below, meth, c, D, cA⟩ := X
  intro hok r u2 ho H locs ls hP hS h
  exact lv_isub hok.1 hok.2.1 d (k hok r u2 ho H locs ls hP hS h)
theorem go_imul {x y : Int32} (d : decode M.1 pc = .ok (.imul, 1)) (k : Go X ad M iv (pc + 1) lv (.int (x * y) :: st) u o) : Go X ad M iv pc lv (.int y :: .int x :: st) u o := by
  obtain ⟨p, l, e, s, m, args, below, meth, c, D, cA⟩ := X
  intro hok r u2 ho H locs ls hP hS h
  exact lv_imul hok.1 hok.2.1 d (k hok r u2 ho H locs ls hP hS h)
theorem go_iand {x y : Int32} (d : decode M.1 pc = .ok (.iand, 1)) (k : Go X ad M iv (pc + 1) lv (.int (x &&& y) :: st) u o) : Go X ad M iv pc lv (.int y :: .int x :: st) u o := by
  obtain ⟨p, l, e, s, m, args, below, meth, c, D, cA⟩ := X
  intro hok r u2 ho H locs ls hP hS h
  exact lv_iand hok.1 hok.2.1 d (k hok r u2 ho H locs ls hP hS h)
theorem go_ior {x y : Int32} (d : decode M.1 pc = .ok (.ior, 1)) (k : Go X ad M iv (pc + 1) lv (.int (x ||| y) :: st) u o) : Go X ad M iv pc lv (.int y :: .int x :: st) u o := by
  obtain ⟨p, l, e, s, m, args, below, meth, c, D, cA⟩ := X
  intro hok r u2 ho H locs ls hP hS h
  exact lv_ior hok.1 hok.2.1 d (k hok r u2 ho H locs ls hP hS h)
theorem go_ishl {x y : Int32} (d : decode M.1 pc = .ok (.ishl, 1)) (k : Go X ad M iv (pc + 1) lv (.int (x <<< (y &&& 31)) :: st) u o) : Go X ad M iv pc lv (.int y :: .int x :: st) u o := by
  obtain ⟨p, l, e, s, m, args, below, meth, c, D, cA⟩ := X
  intro hok r u2 ho H locs ls hP hS h
  exact lv_ishl hok.1 hok.2.1 d (k hok r u2 ho H locs ls hP hS h)
theorem go_ishr {x y : Int32} (d : decode M.1 pc = .ok (.ishr, 1)) (k : Go X ad M iv (pc + 1) lv (.int (x >>> (y &&& 31)) :: st) u o) : Go X ad M iv pc lv (.int y :: .int x :: st) u o := by
  obtain ⟨p, l, e, s, m, args, below, meth, c, D, cA⟩ := X
  intro hok r u2 ho H locs ls hP hS h
  exact lv_ishr hok.1 hok.2.1 d (k hok r u2 ho H locs ls hP hS h)
theorem go_iushr {x y : Int32} (d : decode M.1 pc = .ok (.iushr, 1)) (k : Go X ad M iv (pc + 1) lv (.int (x.toUInt32 >>> (y.toUInt32 &&& Int32.toUInt32 31)).toInt32 :: st) u o) : Go X ad M iv pc lv (.int y :: .int x :: st) u o := by
  obtain ⟨p, l, e, s, m, args, below, meth, c, D, cA⟩ := X
  intro hok r u2 ho H locs ls hP hS h
  exact lv_iushr hok.1 hok.2.1 d rfl (k hok r u2 ho H locs ls hP hS h)
theorem go_idiv {x y : Int32} (hz : decide (¬ y = 0) = true) (d : decode M.1 pc = .ok (.idiv, 1)) (k : Go X ad M iv (pc + 1) lv (.int (x / y) :: st) u o) : Go X ad M iv pc lv (.int y :: .int x :: st) u o := by
  obtain ⟨p, l, e, s, m, args, below, meth, c, D, cA⟩ := X
  intro hok r u2 ho H locs ls hP hS h
  exact lv_idiv hok.1 hok.2.1 d (of_decide_eq_true hz) (k hok r u2 ho H locs ls hP hS h)
theorem go_irem {x y : Int32} (hz : decide (¬ y = 0) = true) (d : decode M.1 pc = .ok (.irem, 1)) (k : Go X ad M iv (pc + 1) lv (.int (x - x / y * y) :: st) u o) : Go X ad M iv pc lv (.int y :: .int x :: st) u o := by
  obtain ⟨p, l, e, s, m, args, below, meth, c, D, cA⟩ := X
  intro hok r u2 ho H locs ls hP hS h
  exact lv_irem hok.1 hok.2.1 d (of_decide_eq_true hz) (k hok r u2 ho H locs ls hP hS h)
theorem go_ineg {x : Int32} (d : decode M.1 pc = .ok (.ineg, 1)) (k : Go X ad M iv (pc + 1) lv (.int (-x) :: st) u o) : Go X ad M iv pc lv (.int x :: st) u o := by
  obtain ⟨p, l, e, s, m, args, below, meth, c, D, cA⟩ := X
  intro hok r u2 ho H locs ls hP hS h
  exact lv_ineg hok.1 hok.2.1 d (k hok r u2 ho H locs ls hP hS h)
theorem go_ladd {x y : Int64} (d : decode M.1 pc = .ok (.ladd, 1)) (k : Go X ad M iv (pc + 1) lv (.long (x + y) :: st) u o) : Go X ad M iv pc lv (.long y :: .long x :: st) u o := by
  obtain ⟨p, l, e, s, m, args, below, meth, c, D, cA⟩ := X
  intro hok r u2 ho H locs ls hP hS h
  exact lv_ladd hok.1 hok.2.1 d (k hok r u2 ho H locs ls hP hS h)
theorem go_lmul {x y : Int64} (d : decode M.1 pc = .ok (.lmul, 1)) (k : Go X ad M iv (pc + 1) lv (.long (x * y) :: st) u o) : Go X ad M iv pc lv (.long y :: .long x :: st) u o := by
  obtain ⟨p, l, e, s, m, args, below, meth, c, D, cA⟩ := X
  intro hok r u2 ho H locs ls hP hS h
  exact lv_lmul hok.1 hok.2.1 d (k hok r u2 ho H locs ls hP hS h)
theorem go_land {x y : Int64} (d : decode M.1 pc = .ok (.land, 1)) (k : Go X ad M iv (pc + 1) lv (.long (x &&& y) :: st) u o) : Go X ad M iv pc lv (.long y :: .long x :: st) u o := by
  obtain ⟨p, l, e, s, m, args, below, meth, c, D, cA⟩ := X
  intro hok r u2 ho H locs ls hP hS h
  exact lv_land hok.1 hok.2.1 d (k hok r u2 ho H locs ls hP hS h)
theorem go_lor {x y : Int64} (d : decode M.1 pc = .ok (.lor, 1)) (k : Go X ad M iv (pc + 1) lv (.long (x ||| y) :: st) u o) : Go X ad M iv pc lv (.long y :: .long x :: st) u o := by
  obtain ⟨p, l, e, s, m, args, below, meth, c, D, cA⟩ := X
  intro hok r u2 ho H locs ls hP hS h
  exact lv_lor hok.1 hok.2.1 d (k hok r u2 ho H locs ls hP hS h)
theorem go_lshl {x : Int64} {y : Int32} (d : decode M.1 pc = .ok (.lshl, 1)) (k : Go X ad M iv (pc + 1) lv (.long (x <<< (y.toInt64 &&& 63)) :: st) u o) : Go X ad M iv pc lv (.int y :: .long x :: st) u o := by
  obtain ⟨p, l, e, s, m, args, below, meth, c, D, cA⟩ := X
  intro hok r u2 ho H locs ls hP hS h
  exact lv_lshl hok.1 hok.2.1 d rfl (k hok r u2 ho H locs ls hP hS h)
theorem go_lcmp {x y : Int64} (d : decode M.1 pc = .ok (.lcmp, 1)) (k : Go X ad M iv (pc + 1) lv (.int (lg_cmp x y) :: st) u o) : Go X ad M iv pc lv (.long y :: .long x :: st) u o := by
  obtain ⟨p, l, e, s, m, args, below, meth, c, D, cA⟩ := X
  intro hok r u2 ho H locs ls hP hS h
  exact W.lcmp hok.1 hok.2.1 d (k hok r u2 ho H locs ls hP hS h)
theorem go_i2l {x : Int32} (d : decode M.1 pc = .ok (.i2l, 1)) (k : Go X ad M iv (pc + 1) lv (.long (x.toInt64) :: st) u o) : Go X ad M iv pc lv (.int x :: st) u o := by
  obtain ⟨p, l, e, s, m, args, below, meth, c, D, cA⟩ := X
  intro hok r u2 ho H locs ls hP hS h
  exact lv_i2l hok.1 hok.2.1 d rfl (k hok r u2 ho H locs ls hP hS h)
theorem go_l2i {x : Int64} (d : decode M.1 pc = .ok (.l2i, 1)) (k : Go X ad M iv (pc + 1) lv (.int (x.toInt32) :: st) u o) : Go X ad M iv pc lv (.long x :: st) u o := by
  obtain ⟨p, l, e, s, m, args, below, meth, c, D, cA⟩ := X
  intro hok r u2 ho H locs ls hP hS h
  exact lv_l2i hok.1 hok.2.1 d rfl (k hok r u2 ho H locs ls hP hS h)
theorem go_i2b {x : Int32} (d : decode M.1 pc = .ok (.i2b, 1)) (k : Go X ad M iv (pc + 1) lv (.int (x.toInt8.toInt32) :: st) u o) : Go X ad M iv pc lv (.int x :: st) u o := by
  obtain ⟨p, l, e, s, m, args, below, meth, c, D, cA⟩ := X
  intro hok r u2 ho H locs ls hP hS h
  exact lv_i2b hok.1 hok.2.1 d rfl (k hok r u2 ho H locs ls hP hS h)
theorem go_i2s {x : Int32} (d : decode M.1 pc = .ok (.i2s, 1)) (k : Go X ad M iv (pc + 1) lv (.int (x.toInt16.toInt32) :: st) u o) : Go X ad M iv pc lv (.int x :: st) u o := by
  obtain ⟨p, l, e, s, m, args, below, meth, c, D, cA⟩ := X
  intro hok r u2 ho H locs ls hP hS h
  exact lv_i2s hok.1 hok.2.1 d rfl (k hok r u2 ho H locs ls hP hS h)
theorem go_i2c {x : Int32} (d : decode M.1 pc = .ok (.i2c, 1)) (k : Go X ad M iv (pc + 1) lv (.int ((x.toUInt32 % 65536).toInt32) :: st) u o) : Go X ad M iv pc lv (.int x :: st) u o := by
  obtain ⟨p, l, e, s, m, args, below, meth, c, D, cA⟩ := X
  intro hok r u2 ho H locs ls hP hS h
  exact lv_i2c hok.1 hok.2.1 d rfl (k hok r u2 ho H locs ls hP hS h)
theorem go_dup {a : Value} (d : decode M.1 pc = .ok (.dup, 1)) (ha : a.category = 1) (k : Go X ad M iv (pc + 1) lv (a :: a :: st) u o) : Go X ad M iv pc lv (a :: st) u o := by
  obtain ⟨p, l, e, s, m, args, below, meth, c, D, cA⟩ := X
  intro hok r u2 ho H locs ls hP hS h
  exact lv_dup hok.1 hok.2.1 d ha (k hok r u2 ho H locs ls hP hS h)
theorem go_dup2 {a b : Value} (d : decode M.1 pc = .ok (.dup2, 1)) (ha : a.category = 1) (hb : b.category = 1) (k : Go X ad M iv (pc + 1) lv (a :: b :: a :: b :: st) u o) : Go X ad M iv pc lv (a :: b :: st) u o := by
  obtain ⟨p, l, e, s, m, args, below, meth, c, D, cA⟩ := X
  intro hok r u2 ho H locs ls hP hS h
  exact lv_dup2_11 hok.1 hok.2.1 d ha hb (k hok r u2 ho H locs ls hP hS h)
theorem go_pop {a : Value} (d : decode M.1 pc = .ok (.pop, 1)) (ha : a.category = 1) (k : Go X ad M iv (pc + 1) lv st u o) : Go X ad M iv pc lv (a :: st) u o := by
  obtain ⟨p, l, e, s, m, args, below, meth, c, D, cA⟩ := X
  intro hok r u2 ho H locs ls hP hS h
  exact lv_pop hok.1 hok.2.1 d ha (k hok r u2 ho H locs ls hP hS h)
theorem go_if_eq {x : Int32} {off : Int} {tgt : Nat} {o1 o2 : Option (α × Uw)} (d : decode M.1 pc = .ok (.ifCond .eq off, 3)) (ht : (pc : Int) + off = (tgt : Int)) (k1 : Go X ad M iv tgt lv st u o1) (k2 : Go X ad M iv (pc + 3) lv st u o2) : Go X ad M iv pc lv (.int x :: st) u (if x = 0 then o1 else o2) := by
  obtain ⟨p, l, e, s, m, args, below, meth, c, D, cA⟩ := X
  intro hok r u2 ho H locs ls hP hS h
  exact lv_if_eq hok.1 hok.2.1 d ht (fun q => k1 hok r u2 (by rw [if_pos q] at ho; exact ho) H locs ls hP hS h) (fun q => k2 hok r u2 (by rw [if_neg q] at ho; exact ho) H locs ls hP hS h)
theorem go_if_eq_t {x : Int32} {off : Int} {tgt : Nat} (hx : x = 0) (d : decode M.1 pc = .ok (.ifCond .eq off, 3)) (ht : (pc : Int) + off = (tgt : Int)) (k : Go X ad M iv tgt lv st u o) : Go X ad M iv pc lv (.int x :: st) u o := by
  obtain ⟨p, l, e, s, m, args, below, meth, c, D, cA⟩ := X
  intro hok r u2 ho H locs ls hP hS h
  exact lv_if_eq hok.1 hok.2.1 d ht (fun _ => k hok r u2 ho H locs ls hP hS h) (fun q => absurd hx q)
theorem go_if_eq_f {x : Int32} {off : Int} {tgt : Nat} (hx : ¬ x = 0) (d : decode M.1 pc = .ok (.ifCond .eq off, 3)) (ht : (pc : Int) + off = (tgt : Int)) (k : Go X ad M iv (pc + 3) lv st u o) : Go X ad M iv pc lv (.int x :: st) u o := by
  obtain ⟨p, l, e, s, m, args, below, meth, c, D, cA⟩ := X
  intro hok r u2 ho H locs ls hP hS h
  exact lv_if_eq hok.1 hok.2.1 d ht (fun q => absurd q hx) (fun _ => k hok r u2 ho H locs ls hP hS h)
theorem go_icmp_eq {x y : Int32} {off : Int} {tgt : Nat} {o1 o2 : Option (α × Uw)} (d : decode M.1 pc = .ok (.if_icmp .eq off, 3)) (ht : (pc : Int) + off = (tgt : Int)) (k1 : Go X ad M iv tgt lv st u o1) (k2 : Go X ad M iv (pc + 3) lv st u o2) : Go X ad M iv pc lv (.int y :: .int x :: st) u (if x = y then o1 else o2) := by
  obtain ⟨p, l, e, s, m, args, below, meth, c, D, cA⟩ := X
  intro hok r u2 ho H locs ls hP hS h
  exact lv_icmp_eq hok.1 hok.2.1 d ht (fun q => k1 hok r u2 (by rw [if_pos q] at ho; exact ho) H locs ls hP hS h) (fun q => k2 hok r u2 (by rw [if_neg q] at ho; exact ho) H locs ls hP hS h)
theorem go_icmp_eq_t {x y : Int32} {off : Int} {tgt : Nat} (hx : x = y) (d : decode M.1 pc = .ok (.if_icmp .eq off, 3)) (ht : (pc : Int) + off = (tgt : Int)) (k : Go X ad M iv tgt lv st u o) : Go X ad M iv pc lv (.int y :: .int x :: st) u o := by
  obtain ⟨p, l, e, s, m, args, below, meth, c, D, cA⟩ := X
  intro hok r u2 ho H locs ls hP hS h
  exact lv_icmp_eq hok.1 hok.2.1 d ht (fun _ => k hok r u2 ho H locs ls hP hS h) (fun q => absurd hx q)
theorem go_icmp_eq_f {x y : Int32} {off : Int} {tgt : Nat} (hx : ¬ x = y) (d : decode M.1 pc = .ok (.if_icmp .eq off, 3)) (ht : (pc : Int) + off = (tgt : Int)) (k : Go X ad M iv (pc + 3) lv st u o) : Go X ad M iv pc lv (.int y :: .int x :: st) u o := by
  obtain ⟨p, l, e, s, m, args, below, meth, c, D, cA⟩ := X
  intro hok r u2 ho H locs ls hP hS h
  exact lv_icmp_eq hok.1 hok.2.1 d ht (fun q => absurd q hx) (fun _ => k hok r u2 ho H locs ls hP hS h)
theorem go_if_ne {x : Int32} {off : Int} {tgt : Nat} {o1 o2 : Option (α × Uw)} (d : decode M.1 pc = .ok (.ifCond .ne off, 3)) (ht : (pc : Int) + off = (tgt : Int)) (k1 : Go X ad M iv tgt lv st u o1) (k2 : Go X ad M iv (pc + 3) lv st u o2) : Go X ad M iv pc lv (.int x :: st) u (if x = 0 then o2 else o1) := by
  obtain ⟨p, l, e, s, m, args, below, meth, c, D, cA⟩ := X
  intro hok r u2 ho H locs ls hP hS h
  exact lv_if_ne hok.1 hok.2.1 d ht (fun q => k1 hok r u2 (by rw [if_neg q] at ho; exact ho) H locs ls hP hS h) (fun q => k2 hok r u2 (by rw [if_pos q] at ho; exact ho) H locs ls hP hS h)
theorem go_if_ne_t {x : Int32} {off : Int} {tgt : Nat} (hx : ¬ x = 0) (d : decode M.1 pc = .ok (.ifCond .ne off, 3)) (ht : (pc : Int) + off = (tgt : Int)) (k : Go X ad M iv tgt lv st u o) : Go X ad M iv pc lv (.int x :: st) u o := by
  obtain ⟨p, l, e, s, m, args, below, meth, c, D, cA⟩ := X
  intro hok r u2 ho H locs ls hP hS h
  exact lv_if_ne hok.1 hok.2.1 d ht (fun _ => k hok r u2 ho H locs ls hP hS h) (fun q => absurd q hx)
theorem go_if_ne_f {x : Int32} {off : Int} {tgt : Nat} (hx : x = 0) (d : decode M.1 pc = .ok (.ifCond .ne off, 3)) (ht : (pc : Int) + off = (tgt : Int)) (k : Go X ad M iv (pc + 3) lv st u o) : Go X ad M iv pc lv (.int x :: st) u o := by
  obtain ⟨p, l, e, s, m, args, below, meth, c, D, cA⟩ := X
  intro hok r u2 ho H locs ls hP hS h
  exact lv_if_ne hok.1 hok.2.1 d ht (fun q => absurd hx q) (fun _ => k hok r u2 ho H locs ls hP hS h)
theorem go_icmp_ne {x y : Int32} {off : Int} {tgt : Nat} {o1 o2 : Option (α × Uw)} (d : decode M.1 pc = .ok (.if_icmp .ne off, 3)) (ht : (pc : Int) + off = (tgt : Int)) (k1 : Go X ad M iv tgt lv st u o1) (k2 : Go X ad M iv (pc + 3) lv st u o2) : Go X ad M iv pc lv (.int y :: .int x :: st) u (if x = y then o2 else o1) := by
  obtain ⟨p, l, e, s, m, args, below, meth, c, D, cA⟩ := X
  intro hok r u2 ho H locs ls hP hS h
  exact lv_icmp_ne hok.1 hok.2.1 d ht (fun q => k1 hok r u2 (by rw [if_neg q] at ho; exact ho) H locs ls hP hS h) (fun q => k2 hok r u2 (by rw [if_pos q] at ho; exact ho) H locs ls hP hS h)
theorem go_icmp_ne_t {x y : Int32} {off : Int} {tgt : Nat} (hx : ¬ x = y) (d : decode M.1 pc = .ok (.if_icmp .ne off, 3)) (ht : (pc : Int) + off = (tgt : Int)) (k : Go X ad M iv tgt lv st u o) : Go X ad M iv pc lv (.int y :: .int x :: st) u o := by
  obtain ⟨p, l, e, s, m, args, below, meth, c, D, cA⟩ := X
  intro hok r u2 ho H locs ls hP hS h
  exact lv_icmp_ne hok.1 hok.2.1 d ht (fun _ => k hok r u2 ho H locs ls hP hS h) (fun q => absurd q hx)
theorem go_icmp_ne_f {x y : Int32} {off : Int} {tgt : Nat} (hx : x = y) (d : decode M.1 pc = .ok (.if_icmp .ne off, 3)) (ht : (pc : Int) + off = (tgt : Int)) (k : Go X ad M iv (pc + 3) lv st u o) : Go X ad M iv pc lv (.int y :: .int x :: st) u o := by
  obtain ⟨p, l, e, s, m, args, below, meth, c, D, cA⟩ := X
  intro hok r u2 ho H locs ls hP hS h
  exact lv_icmp_ne hok.1 hok.2.1 d ht (fun q => absurd hx q) (fun _ => k hok r u2 ho H locs ls hP hS h)
theorem go_if_lt {x : Int32} {off : Int} {tgt : Nat} {o1 o2 : Option (α × Uw)} (d : decode M.1 pc = .ok (.ifCond .lt off, 3)) (ht : (pc : Int) + off = (tgt : Int)) (k1 : Go X ad M iv tgt lv st u o1) (k2 : Go X ad M iv (pc + 3) lv st u o2) : Go X ad M iv pc lv (.int x :: st) u (if x < 0 then o1 else o2) := by
  obtain ⟨p, l, e, s, m, args, below, meth, c, D, cA⟩ := X
  intro hok r u2 ho H locs ls hP hS h
  exact lv_if_lt hok.1 hok.2.1 d ht (fun q => k1 hok r u2 (by rw [if_pos q] at ho; exact ho) H locs ls hP hS h) (fun q => k2 hok r u2 (by rw [if_neg q] at ho; exact ho) H locs ls hP hS h)
theorem go_if_lt_t {x : Int32} {off : Int} {tgt : Nat} (hx : x < 0) (d : decode M.1 pc = .ok (.ifCond .lt off, 3)) (ht : (pc : Int) + off = (tgt : Int)) (k : Go X ad M iv tgt lv st u o) : Go X ad M iv pc lv (.int x :: st) u o := by
  obtain ⟨p, l, e, s, m, args, below, meth, c, D, cA⟩ := X
  intro hok r u2 ho H locs ls hP hS h
  exact lv_if_lt hok.1 hok.2.1 d ht (fun _ => k hok r u2 ho H locs ls hP hS h) (fun q => absurd hx q)
theorem go_if_lt_f {x : Int32} {off : Int} {tgt : Nat} (hx : ¬ x < 0) (d : decode M.1 pc = .ok (.ifCond .lt off, 3)) (ht : (pc : Int) + off = (tgt : Int)) (k : Go X ad M iv (pc + 3) lv st u o) : Go X ad M iv pc lv (.int x :: st) u o := by
  obtain ⟨p, l, e, s, m, args, below, meth, c, D, cA⟩ := X
  intro hok r u2 ho H locs ls hP hS h
  exact lv_if_lt hok.1 hok.2.1 d ht (fun q => absurd q hx) (fun _ => k hok r u2 ho H locs ls hP hS h)
theorem go_icmp_lt {x y : Int32} {off : Int} {tgt : Nat} {o1 o2 : Option (α × Uw)} (d : decode M.1 pc = .ok (.if_icmp .lt off, 3)) (ht : (pc : Int) + off = (tgt : Int)) (k1 : Go X ad M iv tgt lv st u o1) (k2 : Go X ad M iv (pc + 3) lv st u o2) : Go X ad M iv pc lv (.int y :: .int x :: st) u (if x < y then o1 else o2) := by
  obtain ⟨p, l, e, s, m, args, below, meth, c, D, cA⟩ := X
  intro hok r u2 ho H locs ls hP hS h
  exact lv_icmp_lt hok.1 hok.2.1 d ht (fun q => k1 hok r u2 (by rw [if_pos q] at ho; exact ho) H locs ls hP hS h) (fun q => k2 hok r u2 (by rw [if_neg q] at ho; exact ho) H locs ls hP hS h)
theorem go_icmp_lt_t {x y : Int32} {off : Int} {tgt : Nat} (hx : x < y) (d : decode M.1 pc = .ok (.if_icmp .lt off, 3)) (ht : (pc : Int) + off = (tgt : Int)) (k : Go X ad M iv tgt lv st u o) : Go X ad M iv pc lv (.int y :: .int x :: st) u o := by
  obtain ⟨p, l, e, s, m, args, below, meth, c, D, cA⟩ := X
  intro hok r u2 ho H locs ls hP hS h
  exact lv_icmp_lt hok.1 hok.2.1 d ht (fun _ => k hok r u2 ho H locs ls hP hS h) (fun q => absurd hx q)
theorem go_icmp_lt_f {x y : Int32} {off : Int} {tgt : Nat} (hx : ¬ x < y) (d : decode M.1 pc = .ok (.if_icmp .lt off, 3)) (ht : (pc : Int) + off = (tgt : Int)) (k : Go X ad M iv (pc + 3) lv st u o) : Go X ad M iv pc lv (.int y :: .int x :: st) u o := by
  obtain ⟨p, l, e, s, m, args, below, meth, c, D, cA⟩ := X
  intro hok r u2 ho H locs ls hP hS h
  exact lv_icmp_lt hok.1 hok.2.1 d ht (fun q => absurd q hx) (fun _ => k hok r u2 ho H locs ls hP hS h)
theorem go_if_ge {x : Int32} {off : Int} {tgt : Nat} {o1 o2 : Option (α × Uw)} (d : decode M.1 pc = .ok (.ifCond .ge off, 3)) (ht : (pc : Int) + off = (tgt : Int)) (k1 : Go X ad M iv tgt lv st u o1) (k2 : Go X ad M iv (pc + 3) lv st u o2) : Go X ad M iv pc lv (.int x :: st) u (if 0 ≤ x then o1 else o2) := by
  obtain ⟨p, l, e, s, m, args, below, meth, c, D, cA⟩ := X
  intro hok r u2 ho H locs ls hP hS h
  exact lv_if_ge hok.1 hok.2.1 d ht (fun q => k1 hok r u2 (by rw [if_pos q] at ho; exact ho) H locs ls hP hS h) (fun q => k2 hok r u2 (by rw [if_neg q] at ho; exact ho) H locs ls hP hS h)
theorem go_if_ge_t {x : Int32} {off : Int} {tgt : Nat} (hx : 0 ≤ x) (d : decode M.1 pc = .ok (.ifCond .ge off, 3)) (ht : (pc : Int) + off = (tgt : Int)) (k : Go X ad M iv tgt lv st u o) : Go X ad M iv pc lv (.int x :: st) u o := by
  obtain ⟨p, l, e, s, m, args, below, meth, c, D, cA⟩ := X
  intro hok r u2 ho H locs ls hP hS h
  exact lv_if_ge hok.1 hok.2.1 d ht (fun _ => k hok r u2 ho H locs ls hP hS h) (fun q => absurd hx q)
theorem go_if_ge_f {x : Int32} {off : Int} {tgt : Nat} (hx : ¬ 0 ≤ x) (d : decode M.1 pc = .ok (.ifCond .ge off, 3)) (ht : (pc : Int) + off = (tgt : Int)) (k : Go X ad M iv (pc + 3) lv st u o) : Go X ad M iv pc lv (.int x :: st) u o := by
  obtain ⟨p, l, e, s, m, args, below, meth, c, D, cA⟩ := X
  intro hok r u2 ho H locs ls hP hS h
  exact lv_if_ge hok.1 hok.2.1 d ht (fun q => absurd q hx) (fun _ => k hok r u2 ho H locs ls hP hS h)
theorem go_icmp_ge {x y : Int32} {off : Int} {tgt : Nat} {o1 o2 : Option (α × Uw)} (d : decode M.1 pc = .ok (.if_icmp .ge off, 3)) (ht : (pc : Int) + off = (tgt : Int)) (k1 : Go X ad M iv tgt lv st u o1) (k2 : Go X ad M iv (pc + 3) lv st u o2) : Go X ad M iv pc lv (.int y :: .int x :: st) u (if y ≤ x then o1 else o2) := by
  obtain ⟨p, l, e, s, m, args, below, meth, c, D, cA⟩ := X
  intro hok r u2 ho H locs ls hP hS h
  exact lv_icmp_ge hok.1 hok.2.1 d ht (fun q => k1 hok r u2 (by rw [if_pos q] at ho; exact ho) H locs ls hP hS h) (fun q => k2 hok r u2 (by rw [if_neg q] at ho; exact ho) H locs ls hP hS h)
theorem go_icmp_ge_t {x y : Int32} {off : Int} {tgt : Nat} (hx : y ≤ x) (d : decode M.1 pc = .ok (.if_icmp .ge off, 3)) (ht : (pc : Int) + off = (tgt : Int)) (k : Go X ad M iv tgt lv st u o) : Go X ad M iv pc lv (.int y :: .int x :: st) u o := by
  obtain ⟨p, l, e, s, m, args, below, meth, c, D, cA⟩ := X
  intro hok r u2 ho H locs ls hP hS h
  exact lv_icmp_ge hok.1 hok.2.1 d ht (fun _ => k hok r u2 ho H locs ls hP hS h) (fun q => absurd hx q)
theorem go_icmp_ge_f {x y : Int32} {off : Int} {tgt : Nat} (hx : ¬ y ≤ x) (d : decode M.1 pc = .ok (.if_icmp .ge off, 3)) (ht : (pc : Int) + off = (tgt : Int)) (k : Go X ad M iv (pc + 3) lv st u o) : Go X ad M iv pc lv (.int y :: .int x :: st) u o := by
  obtain ⟨p, l, e, s, m, args, below, meth, c, D, cA⟩ := X
  intro hok r u2 ho H locs ls hP hS h
  exact lv_icmp_ge hok.1 hok.2.1 d ht (fun q => absurd q hx) (fun _ => k hok r u2 ho H locs ls hP hS h)
theorem go_if_gt {x : Int32} {off : Int} {tgt : Nat} {o1 o2 : Option (α × Uw)} (d : decode M.1 pc = .ok (.ifCond .gt off, 3)) (ht : (pc : Int) + off = (tgt : Int)) (k1 : Go X ad M iv tgt lv st u o1) (k2 : Go X ad M iv (pc + 3) lv st u o2) : Go X ad M iv pc lv (.int x :: st) u (if 0 < x then o1 else o2) := by
  obtain ⟨p, l, e, s, m, args, below, meth, c, D, cA⟩ := X
  intro hok r u2 ho H locs ls hP hS h
  exact lv_if_gt hok.1 hok.2.1 d ht (fun q => k1 hok r u2 (by rw [if_pos q] at ho; exact ho) H locs ls hP hS h) (fun q => k2 hok r u2 (by rw [if_neg q] at ho; exact ho) H locs ls hP hS h)
theorem go_if_gt_t {x : Int32} {off : Int} {tgt : Nat} (hx : 0 < x) (d : decode M.1 pc = .ok (.ifCond .gt off, 3)) (ht : (pc : Int) + off = (tgt : Int)) (k : Go X ad M iv tgt lv st u o) : Go X ad M iv pc lv (.int x :: st) u o := by
  obtain ⟨p, l, e, s, m, args, below, meth, c, D, cA⟩ := X
  intro hok r u2 ho H locs ls hP hS h
  exact lv_if_gt hok.1 hok.2.1 d ht (fun _ => k hok r u2 ho H locs ls hP hS h) (fun q => absurd hx q)
theorem go_if_gt_f {x : Int32} {off : Int} {tgt : Nat} (hx : ¬ 0 < x) (d : decode M.1 pc = .ok (.ifCond .gt off, 3)) (ht : (pc : Int) + off = (tgt : Int)) (k : Go X ad M iv (pc + 3) lv st u o) : Go X ad M iv pc lv (.int x :: st) u o := by
  obtain ⟨p, l, e, s, m, args, below, meth, c, D, cA⟩ := X
  intro hok r u2 ho H locs ls hP hS h
  exact lv_if_gt hok.1 hok.2.1 d ht (fun q => absurd q hx) (fun _ => k hok r u2 ho H locs ls hP hS h)
theorem go_icmp_gt {x y : Int32} {off : Int} {tgt : Nat} {o1 o2 : Option (α × Uw)} (d : decode M.1 pc = .ok (.if_icmp .gt off, 3)) (ht : (pc : Int) + off = (tgt : Int)) (k1 : Go X ad M iv tgt lv st u o1) (k2 : Go X ad M iv (pc + 3) lv st u o2) : Go X ad M iv pc lv (.int y :: .int x :: st) u (if y < x then o1 else o2) := by
  obtain ⟨p, l, e, s, m, args, below, meth, c, D, cA⟩ := X
  intro hok r u2 ho H locs ls hP hS h
  exact lv_icmp_gt hok.1 hok.2.1 d ht (fun q => k1 hok r u2 (by rw [if_pos q] at ho; exact ho) H locs ls hP hS h) (fun q => k2 hok r u2 (by rw [if_neg q] at ho; exact ho) H locs ls hP hS h)
theorem go_icmp_gt_t {x y : Int32} {off : Int} {tgt : Nat} (hx : y < x) (d : decode M.1 pc = .ok (.if_icmp .gt off, 3)) (ht : (pc : Int) + off = (tgt : Int)) (k : Go X ad M iv tgt lv st u o) : Go X ad M iv pc lv (.int y :: .int x :: st) u o := by
  obtain ⟨p, l, e, s, m, args, below, meth, c, D, cA⟩ := X
  intro hok r u2 ho H locs ls hP hS h
  exact lv_icmp_gt hok.1 hok.2.1 d ht (fun _ => k hok r u2 ho H locs ls hP hS h) (fun q => absurd hx q)
theorem go_icmp_gt_f {x y : Int32} {off : Int} {tgt : Nat} (hx : ¬ y < x) (d : decode M.1 pc = .ok (.if_icmp .gt off, 3)) (ht : (pc : Int) + off = (tgt : Int)) (k : Go X ad M iv (pc + 3) lv st u o) : Go X ad M iv pc lv (.int y :: .int x :: st) u o := by
  obtain ⟨p, l, e, s, m, args, below, meth, c, D, cA⟩ := X
  intro hok r u2 ho H locs ls hP hS h
  exact lv_icmp_gt hok.1 hok.2.1 d ht (fun q => absurd q hx) (fun _ => k hok r u2 ho H locs ls hP hS h)
theorem go_if_le {x : Int32} {off : Int} {tgt : Nat} {o1 o2 : Option (α × Uw)} (d : decode M.1 pc = .ok (.ifCond .le off, 3)) (ht : (pc : Int) + off = (tgt : Int)) (k1 : Go X ad M iv tgt lv st u o1) (k2 : Go X ad M iv (pc + 3) lv st u o2) : Go X ad M iv pc lv (.int x :: st) u (if x ≤ 0 then o1 else o2) := by
  obtain ⟨p, l, e, s, m, args, below, meth, c, D, cA⟩ := X
  intro hok r u2 ho H locs ls hP hS h
  exact lv_if_le hok.1 hok.2.1 d ht (fun q => k1 hok r u2 (by rw [if_pos q] at ho; exact ho) H locs ls hP hS h) (fun q => k2 hok r u2 (by rw [if_neg q] at ho; exact ho) H locs ls hP hS h)
theorem go_if_le_t {x : Int32} {off : Int} {tgt : Nat} (hx : x ≤ 0) (d : decode M.1 pc = .ok (.ifCond .le off, 3)) (ht : (pc : Int) + off = (tgt : Int)) (k : Go X ad M iv tgt lv st u o) : Go X ad M iv pc lv (.int x :: st) u o := by
  obtain ⟨p, l, e, s, m, args, below, meth, c, D, cA⟩ := X
  intro hok r u2 ho H locs ls hP hS h
  exact lv_if_le hok.1 hok.2.1 d ht (fun _ => k hok r u2 ho H locs ls hP hS h) (fun q => absurd hx q)
theorem go_if_le_f {x : Int32} {off : Int} {tgt : Nat} (hx : ¬ x ≤ 0) (d : decode M.1 pc = .ok (.ifCond .le off, 3)) (ht : (pc : Int) + off = (tgt : Int)) (k : Go X ad M iv (pc + 3) lv st u o) : Go X ad M iv pc lv (.int x :: st) u o := by
  obtain ⟨p, l, e, s, m, args, below, meth, c, D, cA⟩ := X
  intro hok r u2 ho H locs ls hP hS h
  exact lv_if_le hok.1 hok.2.1 d ht (fun q => absurd q hx) (fun _ => k hok r u2 ho H locs ls hP hS h)
theorem go_icmp_le {x y : Int32} {off : Int} {tgt : Nat} {o1 o2 : Option (α × Uw)} (d : decode M.1 pc = .ok (.if_icmp .le off, 3)) (ht : (pc : Int) + off = (tgt : Int)) (k1 : Go X ad M iv tgt lv st u o1) (k2 : Go X ad M iv (pc + 3) lv st u o2) : Go X ad M iv pc lv (.int y :: .int x :: st) u (if x ≤ y then o1 else o2) := by
  obtain ⟨p, l, e, s, m, args, below, meth, c, D, cA⟩ := X
  intro hok r u2 ho H locs ls hP hS h
  exact lv_icmp_le hok.1 hok.2.1 d ht (fun q => k1 hok r u2 (by rw [if_pos q] at ho; exact ho) H locs ls hP hS h) (fun q => k2 hok r u2 (by rw [if_neg q] at ho; exact ho) H locs ls hP hS h)
theorem go_icmp_le_t {x y : Int32} {off : Int} {tgt : Nat} (hx : x ≤ y) (d : decode M.1 pc = .ok (.if_icmp .le off, 3)) (ht : (pc : Int) + off = (tgt : Int)) (k : Go X ad M iv tgt lv st u o) : Go X ad M iv pc lv (.int y :: .int x :: st) u o := by
  obtain ⟨p, l, e, s, m, args, below, meth, c, D, cA⟩ := X
  intro hok r u2 ho H locs ls hP hS h
  exact lv_icmp_le hok.1 hok.2.1 d ht (fun _ => k hok r u2 ho H locs ls hP hS h) (fun q => absurd hx q)
theorem go_icmp_le_f {x y : Int32} {off : Int} {tgt : Nat} (hx : ¬ x ≤ y) (d : decode M.1 pc = .ok (.if_icmp .le off, 3)) (ht : (pc : Int) + off = (tgt : Int)) (k : Go X ad M iv (pc + 3) lv st u o) : Go X ad M iv pc lv (.int y :: .int x :: st) u o := by
  obtain ⟨p, l, e, s, m, args, below, meth, c, D, cA⟩ := X
  intro hok r u2 ho H locs ls hP hS h
  exact lv_icmp_le hok.1 hok.2.1 d ht (fun q => absurd q hx) (fun _ => k hok r u2 ho H locs ls hP hS h)
theorem go_ifz_eq {b : Bool} {off : Int} {tgt : Nat} {o1 o2 : Option (α × Uw)} (d : decode M.1 pc = .ok (.ifCond .eq off, 3)) (ht : (pc : Int) + off = (tgt : Int)) (k1 : Go X ad M iv tgt lv st u o1) (k2 : Go X ad M iv (pc + 3) lv st u o2) : Go X ad M iv pc lv (.int (bI b) :: st) u (if b = true then o2 else o1) := by
  cases b with
  | false => exact go_if_eq_t (x := bI false) rfl d ht k1
  | true => exact go_if_eq_f (x := bI true) (by decide) d ht k2
theorem go_ifz_ne {b : Bool} {off : Int} {tgt : Nat} {o1 o2 : Option (α × Uw)} (d : decode M.1 pc = .ok (.ifCond .ne off, 3)) (ht : (pc : Int) + off = (tgt : Int)) (k1 : Go X ad M iv tgt lv st u o1) (k2 : Go X ad M iv (pc + 3) lv st u o2) : Go X ad M iv pc lv (.int (bI b) :: st) u (if b = true then o1 else o2) := by
  cases b with
  | false => exact go_if_ne_f (x := bI false) rfl d ht k2
  | true => exact go_if_ne_t (x := bI true) (by decide) d ht k1
theorem go_goto {off : Int} {tgt : Nat} (d : decode M.1 pc = .ok (.goto off, 3)) (ht : (pc : Int) + off = (tgt : Int)) (k : Go X ad M iv tgt lv st u o) : Go X ad M iv pc lv st u o := by
  obtain ⟨p, l, e, s, m, args, below, meth, c, D, cA⟩ := X
  intro hok r u2 ho H locs ls hP hS h
  exact lv_goto hok.1 hok.2.1 d ht (k hok r u2 ho H locs ls hP hS h)
theorem go_ifnull {x : Nat} {off : Int} (d : decode M.1 pc = .ok (.ifnull off, 3)) (k : Go X ad M iv (pc + 3) lv st u o) : Go X ad M iv pc lv (.ref x :: st) u o := by
  obtain ⟨p, l, e, s, m, args, below, meth, c, D, cA⟩ := X
  intro hok r u2 ho H locs ls hP hS h
  exact lv_ifnull hok.1 hok.2.1 d (k hok r u2 ho H locs ls hP hS h)
theorem go_ifnullN {off : Int} {tgt : Nat} (d : decode M.1 pc = .ok (.ifnull off, 3)) (ht : (pc : Int) + off = (tgt : Int)) (k : Go X ad M iv tgt lv st u o) : Go X ad M iv pc lv (.null :: st) u o := by
  obtain ⟨p, l, e, s, m, args, below, meth, c, D, cA⟩ := X
  intro hok r u2 ho H locs ls hP hS h
  exact lv_ifnullN hok.1 hok.2.1 d ht (k hok r u2 ho H locs ls hP hS h)
theorem go_ifnonnull {x : Nat} {off : Int} {tgt : Nat} (d : decode M.1 pc = .ok (.ifnonnull off, 3)) (ht : (pc : Int) + off = (tgt : Int)) (k : Go X ad M iv tgt lv st u o) : Go X ad M iv pc lv (.ref x :: st) u o := by
  obtain ⟨p, l, e, s, m, args, below, meth, c, D, cA⟩ := X
  intro hok r u2 ho H locs ls hP hS h
  exact lv_ifnonnull hok.1 hok.2.1 d ht (k hok r u2 ho H locs ls hP hS h)
theorem go_ifnonnullN {off : Int} (d : decode M.1 pc = .ok (.ifnonnull off, 3)) (k : Go X ad M iv (pc + 3) lv st u o) : Go X ad M iv pc lv (.null :: st) u o := by
  obtain ⟨p, l, e, s, m, args, below, meth, c, D, cA⟩ := X
  intro hok r u2 ho H locs ls hP hS h
  exact lv_ifnonnullN hok.1 hok.2.1 d (k hok r u2 ho H locs ls hP hS h)
theorem go_tin {dflt lo hi : Int} {offs : Array Int} {len : Nat} {x : Int32} {off : Int} {tgt : Nat} (d : decode M.1 pc = .ok (.tableswitch dflt lo hi offs, len)) (h1 : ¬ x.toInt < lo) (h2 : ¬ hi < x.toInt) (ho1 : offs[(x.toInt - lo).toNat]? = some off) (ht : (pc : Int) + off = (tgt : Int)) (k : Go X ad M iv tgt lv st u o) : Go X ad M iv pc lv (.int x :: st) u o := by
  obtain ⟨p, l, e, s, m, args, below, meth, c, D, cA⟩ := X
  intro hok r u2 ho H locs ls hP hS h
  exact lv_tableIn hok.1 hok.2.1 d h1 h2 ho1 ht (k hok r u2 ho H locs ls hP hS h)
theorem go_tout {dflt lo hi : Int} {offs : Array Int} {len : Nat} {x : Int32} {tgt : Nat} (d : decode M.1 pc = .ok (.tableswitch dflt lo hi offs, len)) (hx : x.toInt < lo ∨ hi < x.toInt) (ht : (pc : Int) + dflt = (tgt : Int)) (k : Go X ad M iv tgt lv st u o) : Go X ad M iv pc lv (.int x :: st) u o := by
  obtain ⟨p, l, e, s, m, args, below, meth, c, D, cA⟩ := X
  intro hok r u2 ho H locs ls hP hS h
  exact lv_tableOut hok.1 hok.2.1 d hx ht (k hok r u2 ho H locs ls hP hS h)
/-- an answer that may be null -/
def ro {γ : Type} (r : Option Nat) (a : γ) (b : Nat → γ) : γ := match r with
  | none => a
  | some e => b e
theorem go_ro {r : Option Nat} {a : Option (α × Uw)} {b : Nat → Option (α × Uw)} (k1 : Go X ad M iv pc lv (.null :: st) u a) (k2 : ∀ e, Go X ad M iv pc lv (.ref (ad e) :: st) u (b e)) : Go X ad M iv pc lv (va_re ad r :: st) u (ro r a b) := by
  cases r with
  | none => exact k1
  | some e => exact k2 e
end GoRows
section GoRets
variable {X : Cx} {ad : Nat → Nat} {M : Mi} {pc : Nat} {lv : List (Nat × Value)} {u : Uw}
theorem go_iret {x : Int32} (hr : M.2.2.2.1 = some .int) (d : decode M.1 pc = .ok (.ireturn, 1)) : Go X ad M ivI pc lv [.int x] u (some (x, u)) := by
  obtain ⟨p, l, e, s, m, args, below, meth, c, D, cA⟩ := X
  intro hok r u2 ho H locs ls hP hS h
  cases ho
  exact W.iret hok.1 hok.2.1 (hok.2.2.2.2.2.2.1.trans hr) (fun t ht hW => ⟨rfl, by rw [ht]; exact hP, hS.F ht⟩) hS.2.2 d hok.2.2.2.2.2.1
theorem go_zret {b : Bool} (hr : M.2.2.2.1 = some .boolean) (d : decode M.1 pc = .ok (.ireturn, 1)) : Go X ad M ivZ pc lv [.int (bI b)] u (some (b, u)) := by
  obtain ⟨p, l, e, s, m, args, below, meth, c, D, cA⟩ := X
  intro hok r u2 ho H locs ls hP hS h
  cases ho
  exact W.zret hok.1 hok.2.1 (hok.2.2.2.2.2.2.1.trans hr) (by cases b <;> rfl) (fun t ht hW => ⟨rfl, by rw [ht]; exact hP, hS.F ht⟩) hS.2.2 d hok.2.2.2.2.2.1
theorem go_lret {x : Int64} (hr : M.2.2.2.1 = some .long) (d : decode M.1 pc = .ok (.lreturn, 1)) : Go X ad M ivL pc lv [.long x] u (some (x, u)) := by
  obtain ⟨p, l, e, s, m, args, below, meth, c, D, cA⟩ := X
  intro hok r u2 ho H locs ls hP hS h
  cases ho
  exact W.lret hok.1 hok.2.1 (hok.2.2.2.2.2.2.1.trans hr) (fun t ht hW => ⟨rfl, by rw [ht]; exact hP, hS.F ht⟩) hS.2.2 d hok.2.2.2.2.2.1
theorem go_vret (hr : M.2.2.2.1 = none) (d : decode M.1 pc = .ok (.return_, 1)) : Go X ad M ivV pc lv [] u (some ((), u)) := by
  obtain ⟨p, l, e, s, m, args, below, meth, c, D, cA⟩ := X
  intro hok r u2 ho H locs ls hP hS h
  cases ho
  exact W.vret hok.1 hok.2.1 (hok.2.2.2.2.2.2.1.trans hr) (fun t ht hW => ⟨rfl, by rw [ht]; exact hP, hS.F ht⟩) hS.2.2 d hok.2.2.2.2.2.1
theorem go_aret {x : Nat} {C : String} (hr : M.2.2.2.1 = some (.object C)) (d : decode M.1 pc = .ok (.areturn, 1)) : Go X ad M ivR pc lv [.ref (ad x)] u (some (some x, u)) := by
  obtain ⟨p, l, e, s, m, args, below, meth, c, D, cA⟩ := X
  intro hok r u2 ho H locs ls hP hS h
  cases ho
  exact W.aret hok.1 hok.2.1 (hok.2.2.2.2.2.2.1.trans hr) (Or.inl ⟨_, rfl⟩) (Or.inr ⟨_, rfl⟩) (fun t ht hW => ⟨rfl, by rw [ht]; exact hP, hS.F ht⟩) hS.2.2 d hok.2.2.2.2.2.1
theorem go_aretN {C : String} (hr : M.2.2.2.1 = some (.object C)) (d : decode M.1 pc = .ok (.areturn, 1)) : Go X ad M ivR pc lv [.null] u (some (none, u)) := by
  obtain ⟨p, l, e, s, m, args, below, meth, c, D, cA⟩ := X
  intro hok r u2 ho H locs ls hP hS h
  cases ho
  exact W.aret hok.1 hok.2.1 (hok.2.2.2.2.2.2.1.trans hr) (Or.inl ⟨_, rfl⟩) (Or.inl rfl) (fun t ht hW => ⟨rfl, by rw [ht]; exact hP, hS.F ht⟩) hS.2.2 d hok.2.2.2.2.2.1
end GoRets
end
section
/-! fields, arrays, statics, texts, calls -/
def cnt (t : Nat) : Nat := [0, 3, 2, 7, 5, 1, 6].getD t 0
theorem t7 {t : Nat} (h : t < 7) : t = 0 ∨ t = 1 ∨ t = 2 ∨ t = 3 ∨ t = 4 ∨ t = 5 ∨ t = 6 := by omega
theorem cell_obj {ad : Nat → Nat} {cA : Nat → ClassId} {u : Uw} {e t : Nat} (ht : (kT e == t) = true) (h7 : t < 7) : cellE ad cA u e = .inr (t, fl ad e (gk u e) t) := by
  have h := eq_of_beq ht
  rcases t7 h7 with rfl | rfl | rfl | rfl | rfl | rfl | rfl <;> simp [cellE, cellF, h]
theorem cn_obj {e t : Nat} (ht : (kT e == t) = true) (h7 : t < 7) : cn e = cnt t := by
  have h := eq_of_beq ht
  rcases t7 h7 with rfl | rfl | rfl | rfl | rfl | rfl | rfl <;> simp [cn, cnt, h]
theorem e97 {e t : Nat} (ht : (kT e == t) = true) (h : t < 16) : e < 97 := kT_lt (by rw [eq_of_beq ht]; omega)
/-- what is known of a class: its place, its words, its fields' types and names -/
def clOk (t : Nat) (C : String) (T : u_T) (N : Nat) (ty : Nat → FieldType) : Prop := vwCl[t]? = some (C, T, N) ∧ (∀ w ∈ u_ws C T N, w ∈ GW) ∧ t < 7 ∧ (∀ k, k < N → parseFieldDescriptor (T k).2.2.1 = some (ty k)) ∧ ∀ a, a < N → ∀ b, b < N → a ≠ b → (T a).2.1 ≠ (T b).2.1
section GoCells
variable {X : Cx} {ad : Nat → Nat} {M : Mi} {α : Type} {iv : (Nat → Nat) → α → Option Value} {pc : Nat} {lv : List (Nat × Value)} {st : List Value} {u : Uw} {o : Option (α × Uw)}
theorem go_get0 {t : Nat} {C : String} {T : u_T} {N : Nat} {ty : Nat → FieldType} (ok : clOk t C T N ty) {e : Nat} (ht : (kT e == t) = true) (j : Nat) (hj : j < N) {v : Value} (hv : (fl ad e (gk u e) t)[j]? = some v) {index : Nat} (w : Cond.fieldLink M.2.1 index (T j).1 (T j).2.1 (T j).2.2.1 ∈ GW) (d : decode M.1 pc = .ok (.getfield index, 3)) (k : Go X ad M iv (pc + 3) lv (v :: st) u o) : Go X ad M iv pc lv (.ref (ad e) :: st) u o := by
  obtain ⟨p, l, ev, s, m, args, below, meth, c, D, cA⟩ := X
  intro hok r u2 ho H locs ls hP hS h
  exact va_get hok.1 hok.2.1 hok.2.2.2.2.1 ok.2.1 hok.2.2.2.1 hok.2.2.2.2.2.2.2.2.1 hP e (by rw [wl_get (e97 ht (Nat.lt_trans ok.2.2.1 (by decide))), cell_obj ht ok.2.2.1]) ok.1 j hj (hok.2.2.2.2.1 _ w) (fun _ z => z) hv d (k hok r u2 ho H locs ls hP hS h)
theorem go_get0N {t : Nat} {C : String} {T : u_T} {N : Nat} {ty : Nat → FieldType} (ok : clOk t C T N ty) {e : Nat} (ht : (kT e == t) = true) (j : Nat) (hj : j < N) {v : Value} (hv : (fl ad e (gk u e) t)[j]? = some v) {index : Nat} {host : String} (w : Cond.fieldLinkNest M.2.1 index (T j).1 (T j).2.1 (T j).2.2.1 host ∈ NW) (d : decode M.1 pc = .ok (.getfield index, 3)) (k : Go X ad M iv (pc + 3) lv (v :: st) u o) : Go X ad M iv pc lv (.ref (ad e) :: st) u o := by
  obtain ⟨p, l, ev, s, m, args, below, meth, c, D, cA⟩ := X
  intro hok r u2 ho H locs ls hP hS h
  exact va_getN hok.1 hok.2.1 hok.2.2.2.2.1 ok.2.1 hok.2.2.2.1 hok.2.2.2.2.2.2.2.2.1 hP e (by rw [wl_get (e97 ht (Nat.lt_trans ok.2.2.1 (by decide))), cell_obj ht ok.2.2.1]) ok.1 j hj ((hok.2.2.2.2.2.2.2.2.2.1 _ w).use (NW_on _ w)) (fun _ z => z) hv d (k hok r u2 ho H locs ls hP hS h)

/-- an int field; at a known cell; a field that is a cell -/
theorem go_getI {t : Nat} {C : String} {T : u_T} {N : Nat} {ty : Nat → FieldType} (ok : clOk t C T N ty) {e : Nat} (ht : (kT e == t) = true) (j : Nat) (hj : j < N) {c : Nat} (hv : ∀ g, (fl ad e g t)[j]? = some (.int (g c))) {index : Nat} (w : Cond.fieldLink M.2.1 index (T j).1 (T j).2.1 (T j).2.2.1 ∈ GW) (d : decode M.1 pc = .ok (.getfield index, 3)) (k : Go X ad M iv (pc + 3) lv (.int (u.1 (kR e) (kO e + c)) :: st) u o) : Go X ad M iv pc lv (.ref (ad e) :: st) u o := go_get0 ok ht j hj (hv _) w d k
theorem go_getIL {t : Nat} {C : String} {T : u_T} {N : Nat} {ty : Nat → FieldType} (ok : clOk t C T N ty) {e : Nat} (ht : (kT e == t) = true) (j : Nat) (hj : j < N) {c : Nat} (hv : ∀ g, (fl ad e g t)[j]? = some (.int (g c))) {rr : Nat} (hr : kR e = rr ∧ kO e = 0) {index : Nat} (w : Cond.fieldLink M.2.1 index (T j).1 (T j).2.1 (T j).2.2.1 ∈ GW) (d : decode M.1 pc = .ok (.getfield index, 3)) (k : Go X ad M iv (pc + 3) lv (.int (u.1 rr c) :: st) u o) : Go X ad M iv pc lv (.ref (ad e) :: st) u o := by
  refine go_getI ok ht j hj hv w d ?_
  rw [hr.1, hr.2, Nat.zero_add]
  exact k
theorem go_getR {t : Nat} {C : String} {T : u_T} {N : Nat} {ty : Nat → FieldType} (ok : clOk t C T N ty) {e : Nat} (ht : (kT e == t) = true) (j : Nat) (hj : j < N) {f : Nat} (hv : ∀ g, (fl ad e g t)[j]? = some (.ref (ad f))) {index : Nat} (w : Cond.fieldLink M.2.1 index (T j).1 (T j).2.1 (T j).2.2.1 ∈ GW) (d : decode M.1 pc = .ok (.getfield index, 3)) (k : Go X ad M iv (pc + 3) lv (.ref (ad f) :: st) u o) : Go X ad M iv pc lv (.ref (ad e) :: st) u o := go_get0 ok ht j hj (hv _) w d k
theorem go_putI {t : Nat} {C : String} {T : u_T} {N : Nat} {ty : Nat → FieldType} (ok : clOk t C T N ty) {e : Nat} (ht : (kT e == t) = true) (j : Nat) (hj : j < N) {c : Nat} {x : Int32} (hv : ∀ g, (fl ad e g t).set j (.int x) = fl ad e (fun i => if i = c then x else g i) t) (hc : c < cnt t) {fty : FieldType} (hd : parseFieldDescriptor (T j).2.2.1 = some fty) (hfin : (T j).2.2.2 = false) (hn : narrow fty (.int x) = .int x) (hfit : fits fty (.int x) = true) (hl : ∀ g, j < (fl ad e g t).length) {index : Nat} (w : Cond.fieldLink M.2.1 index (T j).1 (T j).2.1 (T j).2.2.1 ∈ GW) (d : decode M.1 pc = .ok (.putfield index, 3)) (k : Go X ad M iv (pc + 3) lv st (w1 u (kR e) (kO e + c) x) o) : Go X ad M iv pc lv (.int x :: .ref (ad e) :: st) u o := by
  obtain ⟨p, l, ev, s, m, args, below, meth, cc, D, cA⟩ := X
  intro hok r u2 ho H locs ls hP hS h
  have h97 := e97 ht (Nat.lt_trans ok.2.2.1 (by decide))
  refine va_put hok.1 hok.2.1 hok.2.2.2.2.1 ok.2.1 ty ok.2.2.2.1 ok.2.2.2.2 hok.2.2.2.1 hok.2.2.2.2.2.2.2.2.1 hP (wl_D hok.2.2.2.2.2.2.2.1) hS e (by rw [wl_get h97, cell_obj ht ok.2.2.1]) ok.1 j hj (hok.2.2.2.2.1 _ w) (fun _ z => z) hfin hd hn hfit (hl _) d (fun H1 locs1 hP1 _ hS1 => ?_)
  refine k hok r u2 ho H1 locs1 ls ?_ hS1 h
  rw [← wl_set h97 (u := u) (u' := w1 u (kR e) (kO e + c) x) (e := .inr (t, (fl ad e (gk u e) t).set j (.int x))) (by rw [cell_obj ht ok.2.2.1, gk_w1, hv]) (fun i hi hne => other1 h97 (by rw [cn_obj ht ok.2.2.1]; exact hc) hi hne)]
  exact hP1
theorem go_putIL {t : Nat} {C : String} {T : u_T} {N : Nat} {ty : Nat → FieldType} (ok : clOk t C T N ty) {e : Nat} (ht : (kT e == t) = true) (j : Nat) (hj : j < N) {c : Nat} {x : Int32} (hv : ∀ g, (fl ad e g t).set j (.int x) = fl ad e (fun i => if i = c then x else g i) t) (hc : c < cnt t) {rr : Nat} (hr : kR e = rr ∧ kO e = 0) {fty : FieldType} (hd : parseFieldDescriptor (T j).2.2.1 = some fty) (hfin : (T j).2.2.2 = false) (hn : narrow fty (.int x) = .int x) (hfit : fits fty (.int x) = true) (hl : ∀ g, j < (fl ad e g t).length) {index : Nat} (w : Cond.fieldLink M.2.1 index (T j).1 (T j).2.1 (T j).2.2.1 ∈ GW) (d : decode M.1 pc = .ok (.putfield index, 3)) (k : Go X ad M iv (pc + 3) lv st (w1 u rr c x) o) : Go X ad M iv pc lv (.int x :: .ref (ad e) :: st) u o := by
  refine go_putI ok ht j hj hv hc hd hfin hn hfit hl w d ?_
  rw [hr.1, hr.2, Nat.zero_add]
  exact k
/-- an int field; at a known cell; a field that is a cell -/
theorem go_getIN {t : Nat} {C : String} {T : u_T} {N : Nat} {ty : Nat → FieldType} (ok : clOk t C T N ty) {e : Nat} (ht : (kT e == t) = true) (j : Nat) (hj : j < N) {c : Nat} (hv : ∀ g, (fl ad e g t)[j]? = some (.int (g c))) {index : Nat} {host : String} (w : Cond.fieldLinkNest M.2.1 index (T j).1 (T j).2.1 (T j).2.2.1 host ∈ NW) (d : decode M.1 pc = .ok (.getfield index, 3)) (k : Go X ad M iv (pc + 3) lv (.int (u.1 (kR e) (kO e + c)) :: st) u o) : Go X ad M iv pc lv (.ref (ad e) :: st) u o := go_get0N ok ht j hj (hv _) w d k
theorem go_getILN {t : Nat} {C : String} {T : u_T} {N : Nat} {ty : Nat → FieldType} (ok : clOk t C T N ty) {e : Nat} (ht : (kT e == t) = true) (j : Nat) (hj : j < N) {c : Nat} (hv : ∀ g, (fl ad e g t)[j]? = some (.int (g c))) {rr : Nat} (hr : kR e = rr ∧ kO e = 0) {index : Nat} {host : String} (w : Cond.fieldLinkNest M.2.1 index (T j).1 (T j).2.1 (T j).2.2.1 host ∈ NW) (d : decode M.1 pc = .ok (.getfield index, 3)) (k : Go X ad M iv (pc + 3) lv (.int (u.1 rr c) :: st) u o) : Go X ad M iv pc lv (.ref (ad e) :: st) u o := by
  refine go_getIN ok ht j hj hv w d ?_
  rw [hr.1, hr.2, Nat.zero_add]
  exact k
theorem go_getRN {t : Nat} {C : String} {T : u_T} {N : Nat} {ty : Nat → FieldType} (ok : clOk t C T N ty) {e : Nat} (ht : (kT e == t) = true) (j : Nat) (hj : j < N) {f : Nat} (hv : ∀ g, (fl ad e g t)[j]? = some (.ref (ad f))) {index : Nat} {host : String} (w : Cond.fieldLinkNest M.2.1 index (T j).1 (T j).2.1 (T j).2.2.1 host ∈ NW) (d : decode M.1 pc = .ok (.getfield index, 3)) (k : Go X ad M iv (pc + 3) lv (.ref (ad f) :: st) u o) : Go X ad M iv pc lv (.ref (ad e) :: st) u o := go_get0N ok ht j hj (hv _) w d k
theorem go_putIN {t : Nat} {C : String} {T : u_T} {N : Nat} {ty : Nat → FieldType} (ok : clOk t C T N ty) {e : Nat} (ht : (kT e == t) = true) (j : Nat) (hj : j < N) {c : Nat} {x : Int32} (hv : ∀ g, (fl ad e g t).set j (.int x) = fl ad e (fun i => if i = c then x else g i) t) (hc : c < cnt t) {fty : FieldType} (hd : parseFieldDescriptor (T j).2.2.1 = some fty) (hfin : (T j).2.2.2 = false) (hn : narrow fty (.int x) = .int x) (hfit : fits fty (.int x) = true) (hl : ∀ g, j < (fl ad e g t).length) {index : Nat} {host : String} (w : Cond.fieldLinkNest M.2.1 index (T j).1 (T j).2.1 (T j).2.2.1 host ∈ NW) (d : decode M.1 pc = .ok (.putfield index, 3)) (k : Go X ad M iv (pc + 3) lv st (w1 u (kR e) (kO e + c) x) o) : Go X ad M iv pc lv (.int x :: .ref (ad e) :: st) u o := by
  obtain ⟨p, l, ev, s, m, args, below, meth, cc, D, cA⟩ := X
  intro hok r u2 ho H locs ls hP hS h
  have h97 := e97 ht (Nat.lt_trans ok.2.2.1 (by decide))
  refine va_putN hok.1 hok.2.1 hok.2.2.2.2.1 ok.2.1 ty ok.2.2.2.1 ok.2.2.2.2 hok.2.2.2.1 hok.2.2.2.2.2.2.2.2.1 hP (wl_D hok.2.2.2.2.2.2.2.1) hS e (by rw [wl_get h97, cell_obj ht ok.2.2.1]) ok.1 j hj ((hok.2.2.2.2.2.2.2.2.2.1 _ w).use (NW_on _ w)) (fun _ z => z) hfin hd hn hfit (hl _) d (fun H1 locs1 hP1 _ hS1 => ?_)
  refine k hok r u2 ho H1 locs1 ls ?_ hS1 h
  rw [← wl_set h97 (u := u) (u' := w1 u (kR e) (kO e + c) x) (e := .inr (t, (fl ad e (gk u e) t).set j (.int x))) (by rw [cell_obj ht ok.2.2.1, gk_w1, hv]) (fun i hi hne => other1 h97 (by rw [cn_obj ht ok.2.2.1]; exact hc) hi hne)]
  exact hP1
theorem go_putILN {t : Nat} {C : String} {T : u_T} {N : Nat} {ty : Nat → FieldType} (ok : clOk t C T N ty) {e : Nat} (ht : (kT e == t) = true) (j : Nat) (hj : j < N) {c : Nat} {x : Int32} (hv : ∀ g, (fl ad e g t).set j (.int x) = fl ad e (fun i => if i = c then x else g i) t) (hc : c < cnt t) {rr : Nat} (hr : kR e = rr ∧ kO e = 0) {fty : FieldType} (hd : parseFieldDescriptor (T j).2.2.1 = some fty) (hfin : (T j).2.2.2 = false) (hn : narrow fty (.int x) = .int x) (hfit : fits fty (.int x) = true) (hl : ∀ g, j < (fl ad e g t).length) {index : Nat} {host : String} (w : Cond.fieldLinkNest M.2.1 index (T j).1 (T j).2.1 (T j).2.2.1 host ∈ NW) (d : decode M.1 pc = .ok (.putfield index, 3)) (k : Go X ad M iv (pc + 3) lv st (w1 u rr c x) o) : Go X ad M iv pc lv (.int x :: .ref (ad e) :: st) u o := by
  refine go_putIN ok ht j hj hv hc hd hfin hn hfit hl w d ?_
  rw [hr.1, hr.2, Nat.zero_add]
  exact k
theorem cell_ia {cA : Nat → ClassId} {e : Nat} (ht : (kT e == 10) = true) : cellE ad cA u e = .inl (cA 0, kL e, .inl (mk1 (kL e) (gk u e))) := by simp [cellE, cellF, eq_of_beq ht]
theorem cell_la {cA : Nat → ClassId} {e : Nat} (ht : (kT e == 11) = true) : cellE ad cA u e = .inl (cA 1, kL e, .inr (.inl (mk2 (kL e) (hk u e)))) := by simp [cellE, cellF, eq_of_beq ht]
theorem cell_ba {cA : Nat → ClassId} {e : Nat} (ht : (kT e == 12) = true) : cellE ad cA u e = .inl (cA 2, kL e, .inl (mk1 (kL e) (gk u e))) := by simp [cellE, cellF, eq_of_beq ht]
theorem mk1_at {n : Nat} {f : Nat → Int32} {i : Int32} (h : inb i n = true) : mk1 n f i.toNatClampNeg = f i.toNatClampNeg := if_pos (inb_lt h)
theorem mk2_at {n : Nat} {f : Nat → Int64} {i : Int32} (h : inb i n = true) : mk2 n f i.toNatClampNeg = f i.toNatClampNeg := if_pos (inb_lt h)
theorem mk1_upd {n i : Nat} {f : Nat → Int32} {x : Int32} (h : i < n) : upd (mk1 n f) i x = mk1 n (fun j => if j = i then x else f j) := by
  funext j
  unfold upd mk1
  by_cases hj : j = i
  · subst hj; simp [h]
  · simp [hj]
theorem mk2_upd {n i : Nat} {f : Nat → Int64} {x : Int64} (h : i < n) : vp_updL (mk2 n f) i x = mk2 n (fun j => if j = i then x else f j) := by
  funext j
  unfold vp_updL mk2
  by_cases hj : j = i
  · subst hj; simp [h]
  · simp [hj]
theorem go_iald {e : Nat} {i : Int32} (ht : (kT e == 10) = true) (hi : inb i (kL e) = true) (d : decode M.1 pc = .ok (.iaload, 1)) (k : Go X ad M iv (pc + 1) lv (.int (u.1 (kR e) (kO e + i.toNatClampNeg)) :: st) u o) : Go X ad M iv pc lv (.int i :: .ref (ad e) :: st) u o := by
  obtain ⟨p, l, ev, s, m, args, below, meth, c, D, cA⟩ := X
  intro hok r u2 ho H locs ls hP hS h
  refine va_iald hok.1 hok.2.1 hok.2.2.2.2.2.2.2.2.1 hP e 0 (by rw [wl_get (e97 ht (by decide)), cell_ia ht]) rfl (inb_in hi) d ?_
  rw [mk1_at hi]
  exact k hok r u2 ho H locs ls hP hS h
theorem go_ialdL {e n rr : Nat} {i : Int32} (ht : (kT e == 10) = true) (hr : kR e = rr ∧ kO e = 0) (hn : kL e = n) (hi : inb i n = true) (d : decode M.1 pc = .ok (.iaload, 1)) (k : Go X ad M iv (pc + 1) lv (.int (u.1 rr i.toNatClampNeg) :: st) u o) : Go X ad M iv pc lv (.int i :: .ref (ad e) :: st) u o := by
  refine go_iald ht (by rw [hn]; exact hi) d ?_
  rw [hr.1, hr.2, Nat.zero_add]
  exact k
theorem go_baldL {e n rr : Nat} {i : Int32} (ht : (kT e == 12) = true) (hr : kR e = rr ∧ kO e = 0) (hn : kL e = n) (hi : inb i n = true) (d : decode M.1 pc = .ok (.baload, 1)) (k : Go X ad M iv (pc + 1) lv (.int (u.1 rr i.toNatClampNeg) :: st) u o) : Go X ad M iv pc lv (.int i :: .ref (ad e) :: st) u o := by
  obtain ⟨p, l, ev, s, m, args, below, meth, c, D, cA⟩ := X
  intro hok r u2 ho H locs ls hP hS h
  subst hn
  refine va_bald hok.1 hok.2.1 hok.2.2.2.2.2.2.2.2.1 hP e 2 (by rw [wl_get (e97 ht (by decide)), cell_ba ht]) rfl (inb_in hi) d ?_
  rw [mk1_at hi, show gk u e i.toNatClampNeg = u.1 rr i.toNatClampNeg by unfold gk; rw [hr.1, hr.2, Nat.zero_add]]
  exact k hok r u2 ho H locs ls hP hS h
theorem go_lald {e : Nat} {i : Int32} (ht : (kT e == 11) = true) (hi : inb i (kL e) = true) (d : decode M.1 pc = .ok (.laload, 1)) (k : Go X ad M iv (pc + 1) lv (.long (u.2 (kR e) i.toNatClampNeg) :: st) u o) : Go X ad M iv pc lv (.int i :: .ref (ad e) :: st) u o := by
  obtain ⟨p, l, ev, s, m, args, below, meth, c, D, cA⟩ := X
  intro hok r u2 ho H locs ls hP hS h
  refine va_lald hok.1 hok.2.1 hok.2.2.2.2.2.2.2.2.1 hP e 1 (by rw [wl_get (e97 ht (by decide)), cell_la ht]) rfl (inb_in hi) d ?_
  rw [mk2_at hi]
  exact k hok r u2 ho H locs ls hP hS h
theorem go_laldL {e n rr : Nat} {i : Int32} (ht : (kT e == 11) = true) (hr : kR e = rr ∧ kO e = 0) (hn : kL e = n) (hi : inb i n = true) (d : decode M.1 pc = .ok (.laload, 1)) (k : Go X ad M iv (pc + 1) lv (.long (u.2 rr i.toNatClampNeg) :: st) u o) : Go X ad M iv pc lv (.int i :: .ref (ad e) :: st) u o := by
  refine go_lald ht (by rw [hn]; exact hi) d ?_
  rw [hr.1]
  exact k
theorem go_iast {e : Nat} {i x : Int32} (ht : (kT e == 10) = true) (hi : inb i (kL e) = true) (d : decode M.1 pc = .ok (.iastore, 1)) (k : Go X ad M iv (pc + 1) lv st (w1 u (kR e) (kO e + i.toNatClampNeg) x) o) : Go X ad M iv pc lv (.int x :: .int i :: .ref (ad e) :: st) u o := by
  obtain ⟨p, l, ev, s, m, args, below, meth, c, D, cA⟩ := X
  intro hok r u2 ho H locs ls hP hS h
  have h97 := e97 ht (by decide)
  refine va_iast hok.1 hok.2.1 hok.2.2.2.2.2.2.2.2.1 hP (wl_D hok.2.2.2.2.2.2.2.1) hS e 0 (by rw [wl_get h97, cell_ia ht]) rfl (inb_in hi) d (fun H1 locs1 hP1 _ hS1 => ?_)
  refine k hok r u2 ho H1 locs1 ls ?_ hS1 h
  rw [← wl_set h97 (u := u) (u' := w1 u (kR e) (kO e + i.toNatClampNeg) x) (e := .inl (cA 0, kL e, .inl (upd (mk1 (kL e) (gk u e)) i.toNatClampNeg x))) (by rw [cell_ia ht, gk_w1, mk1_upd (inb_lt hi)]) (fun a ha hne => other1 h97 (by simp only [cn, eq_of_beq ht]; exact inb_lt hi) ha hne)]
  exact hP1
theorem go_iastL {e n rr : Nat} {i x : Int32} (ht : (kT e == 10) = true) (hr : kR e = rr ∧ kO e = 0) (hn : kL e = n) (hi : inb i n = true) (d : decode M.1 pc = .ok (.iastore, 1)) (k : Go X ad M iv (pc + 1) lv st (w1 u rr i.toNatClampNeg x) o) : Go X ad M iv pc lv (.int x :: .int i :: .ref (ad e) :: st) u o := by
  refine go_iast ht (by rw [hn]; exact hi) d ?_
  rw [hr.1, hr.2, Nat.zero_add]
  exact k
theorem go_bastL {e n rr : Nat} {i x : Int32} (ht : (kT e == 12) = true) (hr : kR e = rr ∧ kO e = 0) (hn : kL e = n) (hi : inb i n = true) (d : decode M.1 pc = .ok (.bastore, 1)) (k : Go X ad M iv (pc + 1) lv st (w1 u rr i.toNatClampNeg x.toInt8.toInt32) o) : Go X ad M iv pc lv (.int x :: .int i :: .ref (ad e) :: st) u o := by
  obtain ⟨p, l, ev, s, m, args, below, meth, c, D, cA⟩ := X
  intro hok r u2 ho H locs ls hP hS h
  subst hn
  have h97 := e97 ht (by decide)
  refine va_bast hok.1 hok.2.1 hok.2.2.2.2.2.2.2.2.1 hP (wl_D hok.2.2.2.2.2.2.2.1) hS e 2 (by rw [wl_get h97, cell_ba ht]) rfl (inb_in hi) d (fun H1 locs1 hP1 _ hS1 => ?_)
  refine k hok r u2 ho H1 locs1 ls ?_ hS1 h
  rw [vp_nar_byte] at hP1
  have e1 : w1 u rr i.toNatClampNeg x.toInt8.toInt32 = w1 u (kR e) (kO e + i.toNatClampNeg) x.toInt8.toInt32 := by rw [hr.1, hr.2, Nat.zero_add]
  rw [e1, ← wl_set h97 (u := u) (u' := w1 u (kR e) (kO e + i.toNatClampNeg) x.toInt8.toInt32) (e := .inl (cA 2, kL e, .inl (upd (mk1 (kL e) (gk u e)) i.toNatClampNeg x.toInt8.toInt32))) (by rw [cell_ba ht, gk_w1, mk1_upd (inb_lt hi)]) (fun a ha hne => other1 h97 (by simp only [cn, eq_of_beq ht]; exact inb_lt hi) ha hne)]
  exact hP1
theorem hk_w2 {k j : Nat} {x : Int64} : hk (w2 u (kR k) j x) k = fun i => if i = j then x else hk u k i := by
  funext i
  show (if kR k = kR k ∧ i = j then x else u.2 (kR k) i) = _
  by_cases h : i = j
  · subst h; simp
  · rw [if_neg (by omega), if_neg h]; rfl
theorem go_last {e : Nat} {i : Int32} {x : Int64} (ht : (kT e == 11) = true) (hi : inb i (kL e) = true) (d : decode M.1 pc = .ok (.lastore, 1)) (k : Go X ad M iv (pc + 1) lv st (w2 u (kR e) i.toNatClampNeg x) o) : Go X ad M iv pc lv (.long x :: .int i :: .ref (ad e) :: st) u o := by
  obtain ⟨p, l, ev, s, m, args, below, meth, c, D, cA⟩ := X
  intro hok r u2 ho H locs ls hP hS h
  have h97 := e97 ht (by decide)
  refine va_last hok.1 hok.2.1 hok.2.2.2.2.2.2.2.2.1 hP (wl_D hok.2.2.2.2.2.2.2.1) hS e 1 (by rw [wl_get h97, cell_la ht]) rfl (inb_in hi) d (fun H1 locs1 hP1 _ hS1 => ?_)
  refine k hok r u2 ho H1 locs1 ls ?_ hS1 h
  rw [← wl_set h97 (u := u) (u' := w2 u (kR e) i.toNatClampNeg x) (e := .inl (cA 1, kL e, .inr (.inl (vp_updL (mk2 (kL e) (hk u e)) i.toNatClampNeg x)))) (by rw [cell_la ht, hk_w2, mk2_upd (inb_lt hi)]) (fun a ha hne => other2 h97 (eq_of_beq ht) ha hne)]
  exact hP1
theorem go_lastL {e n rr : Nat} {i : Int32} {x : Int64} (ht : (kT e == 11) = true) (hr : kR e = rr ∧ kO e = 0) (hn : kL e = n) (hi : inb i n = true) (d : decode M.1 pc = .ok (.lastore, 1)) (k : Go X ad M iv (pc + 1) lv st (w2 u rr i.toNatClampNeg x) o) : Go X ad M iv pc lv (.long x :: .int i :: .ref (ad e) :: st) u o := by
  refine go_last ht (by rw [hn]; exact hi) d ?_
  rw [hr.1]
  exact k
theorem go_aald13 {e : Nat} {i : Int32} (ht : (kT e == 13) = true) (hi : inb i 6 = true) (d : decode M.1 pc = .ok (.aaload, 1)) (k : Go X ad M iv (pc + 1) lv (.ref (ad (e + 2 + i.toNatClampNeg)) :: st) u o) : Go X ad M iv pc lv (.int i :: .ref (ad e) :: st) u o := by
  obtain ⟨p, l, ev, s, m, args, below, meth, c, D, cA⟩ := X
  intro hok r u2 ho H locs ls hP hS h
  exact va_aldq (f := fun j => some (ad (e + 2 + j))) hok.1 hok.2.1 hok.2.2.2.2.2.2.2.2.1 hP e 3 (by rw [wl_get (e97 ht (by decide)), show cellE ad cA u e = _ by simp [cellE, cellF, eq_of_beq ht]; rfl]) rfl (inb_in hi) d (k hok r u2 ho H locs ls hP hS h)
theorem go_alen13 {e : Nat} (ht : (kT e == 13) = true) (d : decode M.1 pc = .ok (.arraylength, 1)) (k : Go X ad M iv (pc + 1) lv (.int 6 :: st) u o) : Go X ad M iv pc lv (.ref (ad e) :: st) u o := by
  obtain ⟨p, l, ev, s, m, args, below, meth, c, D, cA⟩ := X
  intro hok r u2 ho H locs ls hP hS h
  exact va_alen hok.1 hok.2.1 hok.2.2.2.2.2.2.2.2.1 hP e 3 (by rw [wl_get (e97 ht (by decide)), show cellE ad cA u e = _ by simp [cellE, cellF, eq_of_beq ht]; rfl]) rfl rfl d (k hok r u2 ho H locs ls hP hS h)
theorem go_aald14 {e : Nat} {i : Int32} (ht : (kT e == 14) = true) (hi : inb i 8 = true) (d : decode M.1 pc = .ok (.aaload, 1)) (k : Go X ad M iv (pc + 1) lv (.ref (ad (e + 13 + i.toNatClampNeg)) :: st) u o) : Go X ad M iv pc lv (.int i :: .ref (ad e) :: st) u o := by
  obtain ⟨p, l, ev, s, m, args, below, meth, c, D, cA⟩ := X
  intro hok r u2 ho H locs ls hP hS h
  exact va_aldq (f := fun j => some (ad (e + 13 + j))) hok.1 hok.2.1 hok.2.2.2.2.2.2.2.2.1 hP e 4 (by rw [wl_get (e97 ht (by decide)), show cellE ad cA u e = _ by simp [cellE, cellF, eq_of_beq ht]; rfl]) rfl (inb_in hi) d (k hok r u2 ho H locs ls hP hS h)
theorem go_alen14 {e : Nat} (ht : (kT e == 14) = true) (d : decode M.1 pc = .ok (.arraylength, 1)) (k : Go X ad M iv (pc + 1) lv (.int 8 :: st) u o) : Go X ad M iv pc lv (.ref (ad e) :: st) u o := by
  obtain ⟨p, l, ev, s, m, args, below, meth, c, D, cA⟩ := X
  intro hok r u2 ho H locs ls hP hS h
  exact va_alen hok.1 hok.2.1 hok.2.2.2.2.2.2.2.2.1 hP e 4 (by rw [wl_get (e97 ht (by decide)), show cellE ad cA u e = _ by simp [cellE, cellF, eq_of_beq ht]; rfl]) rfl rfl d (k hok r u2 ho H locs ls hP hS h)
theorem go_aald15 {e : Nat} {i : Int32} (ht : (kT e == 15) = true) (hi : inb i 4 = true) (d : decode M.1 pc = .ok (.aaload, 1)) (k : Go X ad M iv (pc + 1) lv (.ref (ad (73 + i.toNatClampNeg)) :: st) u o) : Go X ad M iv pc lv (.int i :: .ref (ad e) :: st) u o := by
  obtain ⟨p, l, ev, s, m, args, below, meth, c, D, cA⟩ := X
  intro hok r u2 ho H locs ls hP hS h
  exact va_aldq (f := fun j => some (ad (73 + j))) hok.1 hok.2.1 hok.2.2.2.2.2.2.2.2.1 hP e 5 (by rw [wl_get (e97 ht (by decide)), show cellE ad cA u e = _ by simp [cellE, cellF, eq_of_beq ht]; rfl]) rfl (inb_in hi) d (k hok r u2 ho H locs ls hP hS h)
theorem go_alen15 {e : Nat} (ht : (kT e == 15) = true) (d : decode M.1 pc = .ok (.arraylength, 1)) (k : Go X ad M iv (pc + 1) lv (.int 4 :: st) u o) : Go X ad M iv pc lv (.ref (ad e) :: st) u o := by
  obtain ⟨p, l, ev, s, m, args, below, meth, c, D, cA⟩ := X
  intro hok r u2 ho H locs ls hP hS h
  exact va_alen hok.1 hok.2.1 hok.2.2.2.2.2.2.2.2.1 hP e 5 (by rw [wl_get (e97 ht (by decide)), show cellE ad cA u e = _ by simp [cellE, cellF, eq_of_beq ht]; rfl]) rfl rfl d (k hok r u2 ho H locs ls hP hS h)
theorem go_alen10 {e : Nat} {v : Int32} (ht : (kT e == 10) = true) (hv : Int32.ofNat (kL e) = v) (d : decode M.1 pc = .ok (.arraylength, 1)) (k : Go X ad M iv (pc + 1) lv (.int v :: st) u o) : Go X ad M iv pc lv (.ref (ad e) :: st) u o := by
  obtain ⟨p, l, ev, s, m, args, below, meth, c, D, cA⟩ := X
  intro hok r u2 ho H locs ls hP hS h
  exact va_alen hok.1 hok.2.1 hok.2.2.2.2.2.2.2.2.1 hP e 0 (by rw [wl_get (e97 ht (by decide)), cell_ia ht]) rfl hv d (k hok r u2 ho H locs ls hP hS h)
theorem go_alen11 {e : Nat} {v : Int32} (ht : (kT e == 11) = true) (hv : Int32.ofNat (kL e) = v) (d : decode M.1 pc = .ok (.arraylength, 1)) (k : Go X ad M iv (pc + 1) lv (.int v :: st) u o) : Go X ad M iv pc lv (.ref (ad e) :: st) u o := by
  obtain ⟨p, l, ev, s, m, args, below, meth, c, D, cA⟩ := X
  intro hok r u2 ho H locs ls hP hS h
  exact va_alen hok.1 hok.2.1 hok.2.2.2.2.2.2.2.2.1 hP e 1 (by rw [wl_get (e97 ht (by decide)), cell_la ht]) rfl hv d (k hok r u2 ho H locs ls hP hS h)
theorem go_alen12 {e : Nat} {v : Int32} (ht : (kT e == 12) = true) (hv : Int32.ofNat (kL e) = v) (d : decode M.1 pc = .ok (.arraylength, 1)) (k : Go X ad M iv (pc + 1) lv (.int v :: st) u o) : Go X ad M iv pc lv (.ref (ad e) :: st) u o := by
  obtain ⟨p, l, ev, s, m, args, below, meth, c, D, cA⟩ := X
  intro hok r u2 ho H locs ls hP hS h
  exact va_alen hok.1 hok.2.1 hok.2.2.2.2.2.2.2.2.1 hP e 2 (by rw [wl_get (e97 ht (by decide)), cell_ba ht]) rfl hv d (k hok r u2 ho H locs ls hP hS h)
/-- the tables of Calendar -/
theorem go_gett (t : Nat) (ht : t < 3) {index : Nat} (w : Cond.fieldLink M.2.1 index RX0 (tbn t) "[I" ∈ GW) (d : decode M.1 pc = .ok (.getstatic index, 3)) (k : Go X ad M iv (pc + 3) lv (.ref (ad (100 + t)) :: st) u o) : Go X ad M iv pc lv st u o := by
  obtain ⟨p, l, ev, s, m, args, below, meth, c, D, cA⟩ := X
  intro hok r u2 ho H locs ls hP hS h
  exact va_gets hok.1 hok.2.1 (hok.2.2.2.2.2.2.2.2.2.2.1 t ht).1 hS hok.2.2.2.1 (hok.2.2.2.2.1 _ w) (fun _ z => z) d (k hok r u2 ho H locs ls hP hS h)
theorem go_tald (t : Nat) (ht : t < 3) {i : Int32} (hi : inb i 5 = true) (d : decode M.1 pc = .ok (.iaload, 1)) (k : Go X ad M iv (pc + 1) lv (.int (tbv t i.toNatClampNeg) :: st) u o) : Go X ad M iv pc lv (.int i :: .ref (ad (100 + t)) :: st) u o := by
  obtain ⟨p, l, ev, s, m, args, below, meth, c, D, cA⟩ := X
  intro hok r u2 ho H locs ls hP hS h
  exact va_ti hok.1 hok.2.1 (hok.2.2.2.2.2.2.2.2.2.2.1 t ht).2 hS (inb_in hi) rfl d (k hok r u2 ho H locs ls hP hS h)
theorem go_getcs {index : Nat} (w : Cond.fieldLink M.2.1 index "java/lang/String" "COMPACT_STRINGS" "Z" ∈ GW) (d : decode M.1 pc = .ok (.getstatic index, 3)) (k : Go X ad M iv (pc + 3) lv (.int 1 :: st) u o) : Go X ad M iv pc lv st u o := by
  obtain ⟨p, l, ev, s, m, args, below, meth, c, D, cA⟩ := X
  intro hok r u2 ho H locs ls hP hS h
  exact va_gets hok.1 hok.2.1 hok.2.2.2.2.2.2.2.2.2.2.2.2.2.1 hS hok.2.2.2.1 (hok.2.2.2.2.1 _ w) (fun _ z => z) d (k hok r u2 ho H locs ls hP hS h)
theorem go_getfm {index : Nat} (w : Cond.fieldLink M.2.1 index "jdk/internal/util/Preconditions" "SIOOBE_FORMATTER" "Ljava/util/function/BiFunction;" ∈ GW) (d : decode M.1 pc = .ok (.getstatic index, 3)) (k : ∀ q : Option Nat, Go X ad M iv (pc + 3) lv (va_rf q :: st) u o) : Go X ad M iv pc lv st u o := by
  obtain ⟨p, l, ev, s, m, args, below, meth, c, D, cA⟩ := X
  intro hok r u2 ho H locs ls hP hS h
  obtain ⟨q, hz⟩ := hok.2.2.2.2.2.2.2.2.2.2.2.2.2.2
  exact va_gets hok.1 hok.2.1 hz hS hok.2.2.2.1 (hok.2.2.2.2.1 _ w) (fun _ z => z) d (k q hok r u2 ho H locs ls hP hS h)
/-- the texts: a text is at a code from 110 on, its bytes 20 further -/
def isS (e : Nat) : Bool := decide (110 ≤ e) && decide (e < 124)
theorem isS_spec {e : Nat} (h : isS e = true) : 110 ≤ e ∧ e < 124 := by simpa [isS] using h
theorem go_ldcs (i : Nat) (hi : i < 14) {index : Nat} (hx : stI.getD i 0 = index) (hM : M.2.1 = RX4) (d : decode M.1 pc = .ok (.ldc index, 2)) (k : Go X ad M iv (pc + 2) lv (.ref (ad (110 + i)) :: st) u o) : Go X ad M iv pc lv st u o := by
  obtain ⟨p, l, ev, s, m, args, below, meth, c, D, cA⟩ := X
  intro hok r u2 ho H locs ls hP hS h
  subst hx
  have h4 := hok.2.2.2.2.2.2.2.2.2.2.2.2.1 i hi
  have h5 := hok.2.2.2.1
  rw [hM] at h5
  exact va_ldcS hok.1 hok.2.1 h5 h4 d (k hok r u2 ho H locs ls hP hS h)
theorem go_getsv {e : Nat} (hs : isS e = true) {index : Nat} (w : Cond.fieldLink M.2.1 index "java/lang/String" "value" "[B" ∈ GW) (d : decode M.1 pc = .ok (.getfield index, 3)) (k : Go X ad M iv (pc + 3) lv (.ref (ad (e + 20)) :: st) u o) : Go X ad M iv pc lv (.ref (ad e) :: st) u o := by
  obtain ⟨p, l, ev, s, m, args, below, meth, c, D, cA⟩ := X
  intro hok r u2 ho H locs ls hP hS h
  obtain ⟨h1, h2⟩ := isS_spec hs
  obtain ⟨i, rfl⟩ : ∃ i, e = 110 + i := ⟨e - 110, by omega⟩
  have hE := (hok.2.2.2.2.2.2.2.2.2.2.2.1.1 i (by omega)).2.2.1
  have e1 : 110 + i + 20 = 130 + i := by omega
  rw [e1] at k
  exact vk_getf hok.1 hok.2.1 hE hS hok.2.2.2.1 (hok.2.2.2.2.1 _ w) (fun _ z => z) d (k hok r u2 ho H locs ls hP hS h)
theorem go_getsc {e : Nat} (hs : isS e = true) {index : Nat} (w : Cond.fieldLink M.2.1 index "java/lang/String" "coder" "B" ∈ GW) (d : decode M.1 pc = .ok (.getfield index, 3)) (k : Go X ad M iv (pc + 3) lv (.int 0 :: st) u o) : Go X ad M iv pc lv (.ref (ad e) :: st) u o := by
  obtain ⟨p, l, ev, s, m, args, below, meth, c, D, cA⟩ := X
  intro hok r u2 ho H locs ls hP hS h
  obtain ⟨h1, h2⟩ := isS_spec hs
  obtain ⟨i, rfl⟩ : ∃ i, e = 110 + i := ⟨e - 110, by omega⟩
  have hE := (hok.2.2.2.2.2.2.2.2.2.2.2.1.1 i (by omega)).2.1
  exact vk_getf hok.1 hok.2.1 hE hS hok.2.2.2.1 (hok.2.2.2.2.1 _ w) (fun _ z => z) d (k hok r u2 ho H locs ls hP hS h)
def isV (e : Nat) : Bool := decide (130 ≤ e) && decide (e < 144)
theorem isV_spec {e : Nat} (h : isV e = true) : 130 ≤ e ∧ e < 144 := by simpa [isV] using h
theorem go_alenV {e : Nat} (hs : isV e = true) (d : decode M.1 pc = .ok (.arraylength, 1)) (k : Go X ad M iv (pc + 1) lv (.int (Int32.ofNat (stL.getD (e - 130) 0)) :: st) u o) : Go X ad M iv pc lv (.ref (ad e) :: st) u o := by
  obtain ⟨p, l, ev, s, m, args, below, meth, c, D, cA⟩ := X
  intro hok r u2 ho H locs ls hP hS h
  obtain ⟨h1, h2⟩ := isV_spec hs
  obtain ⟨i, rfl⟩ : ∃ i, e = 130 + i := ⟨e - 130, by omega⟩
  have hE := (hok.2.2.2.2.2.2.2.2.2.2.2.1.1 i (by omega)).2.2.2
  have e1 : 130 + i - 130 = i := by omega
  rw [e1] at k
  exact va_tlen hok.1 hok.2.1 hE hS rfl d (k hok r u2 ho H locs ls hP hS h)
theorem go_baldV {e : Nat} {i : Int32} (hs : isV e = true) (hi : inb i (stL.getD (e - 130) 0) = true) (d : decode M.1 pc = .ok (.baload, 1)) (k : Go X ad M iv (pc + 1) lv (.int ((stB.getD (e - 130) []).getD i.toNatClampNeg 0) :: st) u o) : Go X ad M iv pc lv (.int i :: .ref (ad e) :: st) u o := by
  obtain ⟨p, l, ev, s, m, args, below, meth, c, D, cA⟩ := X
  intro hok r u2 ho H locs ls hP hS h
  obtain ⟨h1, h2⟩ := isV_spec hs
  obtain ⟨n, rfl⟩ : ∃ n, e = 130 + n := ⟨e - 130, by omega⟩
  have hE := (hok.2.2.2.2.2.2.2.2.2.2.2.1.1 n (by omega)).2.2.2
  have e1 : 130 + n - 130 = n := by omega
  rw [e1] at k hi
  exact va_tb hok.1 hok.2.1 hE hS (inb_in hi) rfl d (k hok r u2 ho H locs ls hP hS h)
/-- Math.max, Math.min -/
def mxI (x y : Int32) : Int32 := if x < y then y else x
def mnI (x y : Int32) : Int32 := if y < x then y else x
theorem go_max {index : Nat} {x y : Int32} (w1' : Cond.methodLink M.2.1 index Lib.Math.max.name ∈ GW) (w2' : Cond.static Lib.Math.max.name ∈ GW) (w3' : Cond.initialized "java/lang/Math" ∈ GW) (w4' : Cond.code Lib.Math.max.name Lib.Math.max.code 2 (some .int) ∈ GW) (hf : 1 ≤ M.2.2.2.2.frames) (hlo : (st.map fun v => v.category).sum + 13 ≤ M.2.2.2.2.locals) (d : decode M.1 pc = .ok (.invokestatic index, 3)) (k : Go X ad M iv (pc + 3) lv (.int (mxI x y) :: st) u o) : Go X ad M iv pc lv (.int y :: .int x :: st) u o := by
  obtain ⟨p, l, ev, s, m, args, below, meth, c, D, cA⟩ := X
  intro hok r u2 ho H locs ls hP hS h
  exact va_mmax hok.1 hok.2.1 (hok.2.2.1.trans h.1.symm) hok.2.2.2.1 (hok.2.2.2.2.1 _ w1') (hok.2.2.2.2.1 _ w2') (hok.2.2.2.2.1 _ w3') (hok.2.2.2.2.1 _ w4') hf hlo (Nat.zero_le _) (Nat.zero_le _) d (k hok r u2 ho H locs ls hP hS h)
theorem go_min {index : Nat} {x y : Int32} (w1' : Cond.methodLink M.2.1 index Lib.Math.min.name ∈ GW) (w2' : Cond.static Lib.Math.min.name ∈ GW) (w3' : Cond.initialized "java/lang/Math" ∈ GW) (w4' : Cond.code Lib.Math.min.name Lib.Math.min.code 2 (some .int) ∈ GW) (hf : 1 ≤ M.2.2.2.2.frames) (hlo : (st.map fun v => v.category).sum + 13 ≤ M.2.2.2.2.locals) (d : decode M.1 pc = .ok (.invokestatic index, 3)) (k : Go X ad M iv (pc + 3) lv (.int (mnI x y) :: st) u o) : Go X ad M iv pc lv (.int y :: .int x :: st) u o := by
  obtain ⟨p, l, ev, s, m, args, below, meth, c, D, cA⟩ := X
  intro hok r u2 ho H locs ls hP hS h
  exact va_mmin hok.1 hok.2.1 (hok.2.2.1.trans h.1.symm) hok.2.2.2.1 (hok.2.2.2.2.1 _ w1') (hok.2.2.2.2.1 _ w2') (hok.2.2.2.2.1 _ w3') (hok.2.2.2.2.1 _ w4') hf hlo (Nat.zero_le _) (Nat.zero_le _) d (k hok r u2 ho H locs ls hP hS h)
end GoCells
/-- CALLS -/
def bd {β γ : Type} (q : Option (β × Uw)) (k : β → Uw → Option γ) : Option γ := q.bind fun z => k z.1 z.2
theorem bd_some {β γ : Type} {q : Option (β × Uw)} {k : β → Uw → Option γ} {z : γ} (h : bd q k = some z) : ∃ a w, q = some (a, w) ∧ k a w = some z := by
  obtain ⟨⟨a, w⟩, h1, h2⟩ := Option.bind_eq_some_iff.mp h
  exact ⟨a, w, h1, h2⟩
theorem call_core {p : Program} {l : Launch} {ev : Env} {R : Room} {s : State} {m : MethodId} {args : Array Value} {below : List Frame} {meth : Method} {c : Code} {H : Heap} {locs : List Loc} {Q : State → Prop} {pc : Nat} {ls : Array Slot} {rest st0 : List Value} {ad : Nat → Nat} {D : va_G} {cA : Nat → ClassId} {v : Option Value} {u1 : Uw} {a : Array Value}
    (hr : va_Run p l ev R s m args below meth c H locs 0 0 0 0 (F0 m pc ls st0) rest (QW ad D cA v u1 a) (Aw ad)) (hS : va_S (Aw ad) s.heap H locs)
    (kk : ∀ (H1 : Heap) (locs1 : List Loc), va_P D vwCl (wl ad cA u1) H1 → va_S (Aw ad) s.heap H1 locs1 → W p l ev R s m args below meth c H1 locs1 0 0 Q (F0 m (pc + 3) ls (v.toList ++ rest))) : W p l ev R s m args below meth c H locs 0 0 Q (F0 m pc ls st0) := by
  intro T hT X
  obtain ⟨v', st₀, t, T', L, h0, X', hL, e1, e2, ⟨hv, hP1, hz, hk⟩, stp⟩ := hr T hT X
  cases hv
  rw [h0] at hz hk
  obtain ⟨t2, a1, b1⟩ := kk T'.heap (locs ++ L) (by rw [e1]; exact hP1)
    ⟨Nat.le_trans hS.1 (by rw [e1]; exact hz), fun q h1 h2 => by rw [e1, hk q (Nat.lt_of_lt_of_le h1 hS.1) h2]; exact hS.2.1 q h1 h2, fun q hq => by
      rcases List.mem_append.mp hq with h | h
      · exact hS.2.2 q h
      · exact hL q h⟩ T' rfl X'
  exact ⟨t2, stp t2 a1, b1⟩
theorem wd_blind {ad : Nat → Nat} {D : va_G} {cA : Nat → ClassId} {u : Uw} {As : List Value} : FrameBlind (va_Pc As (Wd ad D cA u)) :=
  fun a U g mk q => ⟨q.1, q.2.1, va_K.moved (u := U) (U := U.calling g mk a) (Vm.Alike.refl U.vm) q.2.2.1, q.2.2.2.1, St.same (u := U) (U := U.calling g mk a) rfl q.2.2.2.2⟩
theorem wd_at {ad : Nat → Nat} {D : va_G} {cA : Nat → ClassId} {u : Uw} {s : State} {H : Heap} {locs : List Loc} (hi : injA ad) (hK : va_K D vwCl (tys cA) s) (hT : St ad s s.heap) (hP : va_P D vwCl (wl ad cA u) H) (hS : va_S (Aw ad) s.heap H locs) : ∀ U : State, U.heap = H → s.WarmedH U.vm → Wd ad D cA u U :=
  fun U hU hW => ⟨by rw [hU]; exact hP, va_K.moved hW.alike hK, hi, by rw [hU]; exact (hT.kept hS.2.1).warm hW⟩
/-- what is known of a method that is called -/
def MOK (y : MethodName) (N : Mi) (n : Nat) : Prop := Cond.code y N.1 N.2.2.1 N.2.2.2.1 ∈ GW ∧ Cond.initialized y.cls ∈ GW ∧ (y.cls ≠ "java/lang/invoke/MethodHandle" ∧ y.cls ≠ "java/lang/invoke/VarHandle" ∧ (parseMethodDescriptor y.desc).map (fun d => d.parameters.length) = some n) ∧ N.2.2.2.2.cells = 0 ∧ N.2.2.2.2.slots = 0
/-- and of one that is called on an object -/
def MOV (y : MethodName) (N : Mi) (n : Nat) (C : String) : Prop := MOK y N n ∧ Cond.instanceMethod y ∈ GW ∧ Cond.selects C y y ∈ GW
def RMok (N M : Mi) : Prop := N.2.2.2.2.frames + 1 ≤ M.2.2.2.2.frames ∧ 8 + (N.2.2.1 + 11) + N.2.2.2.2.locals ≤ M.2.2.2.2.locals
theorem goodGW {w : Cond} (h : w ∈ GW) : GoodIn GW (w :: GW) := fun z hz => by
  rcases List.mem_cons.mp hz with rfl | hz
  · exact ⟨h, GW_good h⟩
  · exact ⟨hz, GW_good hz⟩
section GoCalls
variable {X : Cx} {ad : Nat → Nat} {M : Mi} {α : Type} {iv : (Nat → Nat) → α → Option Value} {pc : Nat} {lv : List (Nat × Value)} {st stk : List Value} {u : Uw} {β : Type} {jv : (Nat → Nat) → β → Option Value} {y : MethodName} {N : Mi} {n index : Nat} {f : Option (β × Uw)} {kk : β → Uw → Option (α × Uw)}
theorem go_callV {t : Nat} {C : String} {T : u_T} {NF : Nat} {tyF : Nat → FieldType} {e : Nat} {As : (Nat → Nat) → List Value} (hM : ∀ l, Con l y N jv (fun ad => .ref (ad e) :: As ad) u f) (mo : MOV y N n C) (ok : clOk t C T NF tyF) (ht : (kT e == t) = true) (w : Cond.methodLink M.2.1 index y ∈ GW) (hn : (As ad).length = n) (hR : RMok N M) (hst : stk = (As ad).reverse ++ .ref (ad e) :: st) (hroom : (st.map fun v => v.category).sum ≤ 8) (d : decode M.1 pc = .ok (.invokevirtual index, 3))
    (k : ∀ (a : β) (v : Uw), Go X ad M iv (pc + 3) lv ((jv ad a).toList ++ st) v (kk a v)) : Go X ad M iv pc lv stk u (bd f kk) := by
  obtain ⟨p, l, ev, s, m, args, below, meth, c, D, cA⟩ := X
  intro hok r u2 ho H locs ls hP hS h
  obtain ⟨a, v, h1, h2⟩ := bd_some ho
  have hw := hok.2.2.2.2.1
  refine call_core (va_runV (Ts := GW) (b := ad e) (As := As ad) (rest := st) (nL := M.2.2.1) (C := C) ⟨hok.1, hok.2.1, hok.2.2.1, hok.2.2.2.1, hw⟩ (hM l ad D cA a v h1) ⟨callB_of n hw (goodGW mo.1.1) rfl mo.1.2.2.2.1 mo.1.2.2.2.2 (hw _ mo.1.2.1) (hw _ w) mo.1.2.2.1 hR, hw _ mo.2.1, hw _ mo.2.2⟩
    ⟨wd_blind, va_recv hok.2.2.2.2.2.2.2.2.1 hP ok.1 (by rw [wl_get (e97 ht (Nat.lt_trans ok.2.2.1 (by decide))), cell_obj ht ok.2.2.1]), fun U hU hW => ⟨rfl, wd_at hok.2.2.2.2.2.2.2.1 hok.2.2.2.2.2.2.2.2.1 hok.2.2.2.2.2.2.2.2.2 hP hS U hU hW⟩⟩ rfl hn h.1 hst (lv_room hroom) d ⟨Nat.zero_le _, Nat.zero_le _⟩) hS (fun H1 locs1 hP1 hS1 => ?_)
  exact k a v hok r u2 h2 H1 locs1 ls hP1 hS1 h
theorem go_callS {As : (Nat → Nat) → List Value} (hM : ∀ l, Con l y N jv As u f) (mo : MOK y N n) (ws : Cond.static y ∈ GW) (w : Cond.methodLink M.2.1 index y ∈ GW) (hn : (As ad).length = n) (hR : RMok N M) (hst : stk = (As ad).reverse ++ st) (hroom : (st.map fun v => v.category).sum ≤ 8) (d : decode M.1 pc = .ok (.invokestatic index, 3))
    (k : ∀ (a : β) (v : Uw), Go X ad M iv (pc + 3) lv ((jv ad a).toList ++ st) v (kk a v)) : Go X ad M iv pc lv stk u (bd f kk) := by
  obtain ⟨p, l, ev, s, m, args, below, meth, c, D, cA⟩ := X
  intro hok r u2 ho H locs ls hP hS h
  obtain ⟨a, v, h1, h2⟩ := bd_some ho
  have hw := hok.2.2.2.2.1
  refine call_core (va_runS (Ts := GW) (As := As ad) (rest := st) (nL := M.2.2.1) ⟨hok.1, hok.2.1, hok.2.2.1, hok.2.2.2.1, hw⟩ (hM l ad D cA a v h1) ⟨callB_of n hw (goodGW mo.1) rfl mo.2.2.2.1 mo.2.2.2.2 (hw _ mo.2.1) (hw _ w) mo.2.2.1 hR, hw _ ws⟩
    ⟨wd_blind, fun U hU hW => ⟨rfl, wd_at hok.2.2.2.2.2.2.2.1 hok.2.2.2.2.2.2.2.2.1 hok.2.2.2.2.2.2.2.2.2 hP hS U hU hW⟩⟩ rfl hn h.1 hst (lv_room hroom) d ⟨Nat.zero_le _, Nat.zero_le _⟩) hS (fun H1 locs1 hP1 hS1 => ?_)
  exact k a v hok r u2 h2 H1 locs1 ls hP1 hS1 h
theorem go_callSN {As : (Nat → Nat) → List Value} {host : String} (hM : ∀ l, Con l y N jv As u f) (mo : MOK y N n) (ws : Cond.static y ∈ GW) (w : Cond.methodLinkNest M.2.1 index y host ∈ NW) (hn : (As ad).length = n) (hR : RMok N M) (hst : stk = (As ad).reverse ++ st) (hroom : (st.map fun v => v.category).sum ≤ 8) (d : decode M.1 pc = .ok (.invokestatic index, 3))
    (k : ∀ (a : β) (v : Uw), Go X ad M iv (pc + 3) lv ((jv ad a).toList ++ st) v (kk a v)) : Go X ad M iv pc lv stk u (bd f kk) := by
  obtain ⟨p, l, ev, s, m, args, below, meth, c, D, cA⟩ := X
  intro hok r u2 ho H locs ls hP hS h
  obtain ⟨a, v, h1, h2⟩ := bd_some ho
  have hw := hok.2.2.2.2.1
  refine call_core (va_runSN (Ts := GW) (As := As ad) (rest := st) (nL := M.2.2.1) (host := host) ⟨hok.1, hok.2.1, hok.2.2.1, hok.2.2.2.1, hw⟩ (hM l ad D cA a v h1) ⟨va_cnB n hw (goodGW mo.1) rfl mo.2.2.2.1 mo.2.2.2.2 (hok.2.2.2.2.2.2.2.2.2.1 _ w) (hw _ mo.2.1) mo.2.2.1 hR, hw _ ws, trivial⟩
    ⟨wd_blind, fun U hU hW => ⟨rfl, wd_at hok.2.2.2.2.2.2.2.1 hok.2.2.2.2.2.2.2.2.1 hok.2.2.2.2.2.2.2.2.2 hP hS U hU hW⟩⟩ rfl hn h.1 hst (lv_room hroom) d ⟨Nat.zero_le _, Nat.zero_le _⟩) hS (fun H1 locs1 hP1 hS1 => ?_)
  exact k a v hok r u2 h2 H1 locs1 ls hP1 hS1 h
/-- a call on a text -/
theorem go_callT {e : Nat} {As : (Nat → Nat) → List Value} (hM : ∀ l, Con l y N jv (fun ad => .ref (ad e) :: As ad) u f) (mo : MOV y N n "java/lang/String") (hs : isS e = true) (w : Cond.methodLink M.2.1 index y ∈ GW) (hn : (As ad).length = n) (hR : RMok N M) (hst : stk = (As ad).reverse ++ .ref (ad e) :: st) (hroom : (st.map fun v => v.category).sum ≤ 8) (d : decode M.1 pc = .ok (.invokevirtual index, 3))
    (k : ∀ (a : β) (v : Uw), Go X ad M iv (pc + 3) lv ((jv ad a).toList ++ st) v (kk a v)) : Go X ad M iv pc lv stk u (bd f kk) := by
  obtain ⟨p, l, ev, s, m, args, below, meth, c, D, cA⟩ := X
  intro hok r u2 ho H locs ls hP hS h
  obtain ⟨a, v, h1, h2⟩ := bd_some ho
  have hw := hok.2.2.2.2.1
  obtain ⟨q1, q2⟩ := isS_spec hs
  have hrc : ∃ cell : Cell, H[ad e]? = some cell ∧ cell.vm.isStatics = false ∧ s.vm.findClass "java/lang/String" = some cell.cls := by
    have := vk_recv (i := e - 110) hok.2.2.2.2.2.2.2.2.2.2.2.1 (by omega) hS
    rw [show 110 + (e - 110) = e by omega] at this
    exact this
  refine call_core (va_runV (Ts := GW) (b := ad e) (As := As ad) (rest := st) (nL := M.2.2.1) (C := "java/lang/String") ⟨hok.1, hok.2.1, hok.2.2.1, hok.2.2.2.1, hw⟩ (hM l ad D cA a v h1) ⟨callB_of n hw (goodGW mo.1.1) rfl mo.1.2.2.2.1 mo.1.2.2.2.2 (hw _ mo.1.2.1) (hw _ w) mo.1.2.2.1 hR, hw _ mo.2.1, hw _ mo.2.2⟩
    ⟨wd_blind, hrc, fun U hU hW => ⟨rfl, wd_at hok.2.2.2.2.2.2.2.1 hok.2.2.2.2.2.2.2.2.1 hok.2.2.2.2.2.2.2.2.2 hP hS U hU hW⟩⟩ rfl hn h.1 hst (lv_room hroom) d ⟨Nat.zero_le _, Nat.zero_le _⟩) hS (fun H1 locs1 hP1 hS1 => ?_)
  exact k a v hok r u2 h2 H1 locs1 ls hP1 hS1 h
end GoCalls
/-- a contract out of the walk from the entry -/
theorem con_of {y : MethodName} {M : Mi} {α : Type} {iv : (Nat → Nat) → α → Option Value} {As : (Nat → Nat) → List Value} {u : Uw} {o : Option (α × Uw)} (hy : plainName y.cls = true) (hc : M.2.1 = y.cls) (hlen : ∀ ad, (lg_sl (As ad)).length ≤ M.2.2.1) (hgo : ∀ (X : Cx) (ad : Nat → Nat), Go X ad M iv 0 (lv_args 0 (As ad)) [] u o) : ∀ l, Con l y M iv As u o := by
  intro l ad D cA r u2 ho
  refine Met.ofW (cc := M.1) (maxL := M.2.2.1) (ret := M.2.2.2.1) hy rfl ?_
  intro p e s m args below meth c s₁ B hml hv
  obtain ⟨rfl, hP, hK, hi, hT⟩ := hv
  have hts := atoms_spec (ws := Cond.code y M.1 M.2.2.1 M.2.2.2.1 :: GW) B.pre
  have hown : s.vm.findClass M.2.1 = some m.cls := by rw [hc]; exact findClass_of_methodNamed B.named
  have hl := lv_entry (As ad) (n := M.2.2.1) (hlen ad)
  rw [lg_entry_eq]
  exact hgo (p, l, e, s, m, (As ad).toArray, below, meth, c, D, cA) ad ⟨B.exec, B.bytes, hml, hown, fun w hw => hts w (List.mem_cons_of_mem _ hw), B.notSynchronized, B.returns, hi, hK, hT⟩ r u2 ho s.heap [] _ hP va_S.rf hl
end
