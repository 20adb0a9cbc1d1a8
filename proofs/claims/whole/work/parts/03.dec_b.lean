/-! printed: decode rows -/
theorem dX6_init_0 : decode cX6_init 0 = .ok (.aload_n 0, 1) := by decide +kernel
theorem dX6_init_1 : decode cX6_init 1 = .ok (.invokespecial 1, 3) := by decide +kernel
theorem dX6_init_4 : decode cX6_init 4 = .ok (.aload_n 0, 1) := by decide +kernel
theorem dX6_init_5 : decode cX6_init 5 = .ok (.bipush 61, 2) := by decide +kernel
theorem dX6_init_7 : decode cX6_init 7 = .ok (.newarray .int, 2) := by decide +kernel
theorem dX6_init_9 : decode cX6_init 9 = .ok (.putfield 7, 3) := by decide +kernel
theorem dX6_init_12 : decode cX6_init 12 = .ok (.aload_n 0, 1) := by decide +kernel
theorem dX6_init_13 : decode cX6_init 13 = .ok (.bipush 61, 2) := by decide +kernel
theorem dX6_init_15 : decode cX6_init 15 = .ok (.newarray .int, 2) := by decide +kernel
theorem dX6_init_17 : decode cX6_init 17 = .ok (.putfield 13, 3) := by decide +kernel
theorem dX6_init_20 : decode cX6_init 20 = .ok (.aload_n 0, 1) := by decide +kernel
theorem dX6_init_21 : decode cX6_init 21 = .ok (.bipush 61, 2) := by decide +kernel
theorem dX6_init_23 : decode cX6_init 23 = .ok (.newarray .int, 2) := by decide +kernel
theorem dX6_init_25 : decode cX6_init 25 = .ok (.putfield 16, 3) := by decide +kernel
theorem dX6_init_28 : decode cX6_init 28 = .ok (.aload_n 0, 1) := by decide +kernel
theorem dX6_init_29 : decode cX6_init 29 = .ok (.bipush 61, 2) := by decide +kernel
theorem dX6_init_31 : decode cX6_init 31 = .ok (.newarray .int, 2) := by decide +kernel
theorem dX6_init_33 : decode cX6_init 33 = .ok (.putfield 19, 3) := by decide +kernel
theorem dX6_init_36 : decode cX6_init 36 = .ok (.aload_n 0, 1) := by decide +kernel
theorem dX6_init_37 : decode cX6_init 37 = .ok (.bipush 7, 2) := by decide +kernel
theorem dX6_init_39 : decode cX6_init 39 = .ok (.newarray .int, 2) := by decide +kernel
theorem dX6_init_41 : decode cX6_init 41 = .ok (.putfield 22, 3) := by decide +kernel
theorem dX6_init_44 : decode cX6_init 44 = .ok (.aload_n 0, 1) := by decide +kernel
theorem dX6_init_45 : decode cX6_init 45 = .ok (.bipush 120, 2) := by decide +kernel
theorem dX6_init_47 : decode cX6_init 47 = .ok (.newarray .int, 2) := by decide +kernel
theorem dX6_init_49 : decode cX6_init 49 = .ok (.putfield 25, 3) := by decide +kernel
theorem dX6_init_52 : decode cX6_init 52 = .ok (.aload_n 0, 1) := by decide +kernel
theorem dX6_init_53 : decode cX6_init 53 = .ok (.iconst 4, 1) := by decide +kernel
theorem dX6_init_54 : decode cX6_init 54 = .ok (.newarray .int, 2) := by decide +kernel
theorem dX6_init_56 : decode cX6_init 56 = .ok (.putfield 28, 3) := by decide +kernel
theorem dX6_init_59 : decode cX6_init 59 = .ok (.aload_n 0, 1) := by decide +kernel
theorem dX6_init_60 : decode cX6_init 60 = .ok (.iconst 4, 1) := by decide +kernel
theorem dX6_init_61 : decode cX6_init 61 = .ok (.newarray .int, 2) := by decide +kernel
theorem dX6_init_63 : decode cX6_init 63 = .ok (.putfield 31, 3) := by decide +kernel
theorem dX6_init_66 : decode cX6_init 66 = .ok (.aload_n 0, 1) := by decide +kernel
theorem dX6_init_67 : decode cX6_init 67 = .ok (.sipush 160, 3) := by decide +kernel
theorem dX6_init_70 : decode cX6_init 70 = .ok (.newarray .long, 2) := by decide +kernel
theorem dX6_init_72 : decode cX6_init 72 = .ok (.putfield 34, 3) := by decide +kernel
theorem dX6_init_75 : decode cX6_init 75 = .ok (.aload_n 0, 1) := by decide +kernel
theorem dX6_init_76 : decode cX6_init 76 = .ok (.bipush 40, 2) := by decide +kernel
theorem dX6_init_78 : decode cX6_init 78 = .ok (.newarray .long, 2) := by decide +kernel
theorem dX6_init_80 : decode cX6_init 80 = .ok (.putfield 38, 3) := by decide +kernel
theorem dX6_init_83 : decode cX6_init 83 = .ok (.aload_n 0, 1) := by decide +kernel
theorem dX6_init_84 : decode cX6_init 84 = .ok (.getfield 7, 3) := by decide +kernel
theorem dX6_init_87 : decode cX6_init 87 = .ok (.iconst 3, 1) := by decide +kernel
theorem dX6_init_88 : decode cX6_init 88 = .ok (.bipush 10, 2) := by decide +kernel
theorem dX6_init_90 : decode cX6_init 90 = .ok (.iastore, 1) := by decide +kernel
theorem dX6_init_91 : decode cX6_init 91 = .ok (.return_, 1) := by decide +kernel
theorem dX6_in_0 : decode cX6_in 0 = .ok (.lload_n 0, 1) := by decide +kernel
theorem dX6_in_1 : decode cX6_in 1 = .ok (.lload_n 2, 1) := by decide +kernel
theorem dX6_in_2 : decode cX6_in 2 = .ok (.lcmp, 1) := by decide +kernel
theorem dX6_in_3 : decode cX6_in 3 = .ok (.ifCond .lt 14, 3) := by decide +kernel
theorem dX6_in_6 : decode cX6_in 6 = .ok (.lload_n 0, 1) := by decide +kernel
theorem dX6_in_7 : decode cX6_in 7 = .ok (.lload 4, 2) := by decide +kernel
theorem dX6_in_9 : decode cX6_in 9 = .ok (.lcmp, 1) := by decide +kernel
theorem dX6_in_10 : decode cX6_in 10 = .ok (.ifCond .gt 7, 3) := by decide +kernel
theorem dX6_in_13 : decode cX6_in 13 = .ok (.iconst 1, 1) := by decide +kernel
theorem dX6_in_14 : decode cX6_in 14 = .ok (.goto 4, 3) := by decide +kernel
theorem dX6_in_17 : decode cX6_in 17 = .ok (.iconst 0, 1) := by decide +kernel
theorem dX6_in_18 : decode cX6_in 18 = .ok (.ireturn, 1) := by decide +kernel
theorem dX6_finds_0 : decode cX6_finds 0 = .ok (.aload_n 0, 1) := by decide +kernel
theorem dX6_finds_1 : decode cX6_finds 1 = .ok (.getfield 22, 3) := by decide +kernel
theorem dX6_finds_4 : decode cX6_finds 4 = .ok (.ldc 41, 2) := by decide +kernel
theorem dX6_finds_6 : decode cX6_finds 6 = .ok (.iload_n 1, 1) := by decide +kernel
theorem dX6_finds_7 : decode cX6_finds 7 = .ok (.isub, 1) := by decide +kernel
theorem dX6_finds_8 : decode cX6_finds 8 = .ok (.dup2, 1) := by decide +kernel
theorem dX6_finds_9 : decode cX6_finds 9 = .ok (.iaload, 1) := by decide +kernel
theorem dX6_finds_10 : decode cX6_finds 10 = .ok (.iconst 1, 1) := by decide +kernel
theorem dX6_finds_11 : decode cX6_finds 11 = .ok (.iadd, 1) := by decide +kernel
theorem dX6_finds_12 : decode cX6_finds 12 = .ok (.iastore, 1) := by decide +kernel
theorem dX6_finds_13 : decode cX6_finds 13 = .ok (.iload_n 1, 1) := by decide +kernel
theorem dX6_finds_14 : decode cX6_finds 14 = .ok (.ireturn, 1) := by decide +kernel
theorem dX6_saves_0 : decode cX6_saves 0 = .ok (.iconst 0, 1) := by decide +kernel
theorem dX6_saves_1 : decode cX6_saves 1 = .ok (.istore_n 1, 1) := by decide +kernel
theorem dX6_saves_2 : decode cX6_saves 2 = .ok (.iload_n 1, 1) := by decide +kernel
theorem dX6_saves_3 : decode cX6_saves 3 = .ok (.bipush 61, 2) := by decide +kernel
theorem dX6_saves_5 : decode cX6_saves 5 = .ok (.if_icmp .ge 21, 3) := by decide +kernel
theorem dX6_saves_8 : decode cX6_saves 8 = .ok (.aload_n 0, 1) := by decide +kernel
theorem dX6_saves_9 : decode cX6_saves 9 = .ok (.getfield 16, 3) := by decide +kernel
theorem dX6_saves_12 : decode cX6_saves 12 = .ok (.iload_n 1, 1) := by decide +kernel
theorem dX6_saves_13 : decode cX6_saves 13 = .ok (.aload_n 0, 1) := by decide +kernel
theorem dX6_saves_14 : decode cX6_saves 14 = .ok (.getfield 7, 3) := by decide +kernel
theorem dX6_saves_17 : decode cX6_saves 17 = .ok (.iload_n 1, 1) := by decide +kernel
theorem dX6_saves_18 : decode cX6_saves 18 = .ok (.iaload, 1) := by decide +kernel
theorem dX6_saves_19 : decode cX6_saves 19 = .ok (.iastore, 1) := by decide +kernel
theorem dX6_saves_20 : decode cX6_saves 20 = .ok (.iinc 1 1, 3) := by decide +kernel
theorem dX6_saves_23 : decode cX6_saves 23 = .ok (.goto (-21), 3) := by decide +kernel
theorem dX6_saves_26 : decode cX6_saves 26 = .ok (.return_, 1) := by decide +kernel
theorem dX6_putsBack_0 : decode cX6_putsBack 0 = .ok (.iconst 0, 1) := by decide +kernel
theorem dX6_putsBack_1 : decode cX6_putsBack 1 = .ok (.istore_n 1, 1) := by decide +kernel
theorem dX6_putsBack_2 : decode cX6_putsBack 2 = .ok (.iload_n 1, 1) := by decide +kernel
theorem dX6_putsBack_3 : decode cX6_putsBack 3 = .ok (.bipush 61, 2) := by decide +kernel
theorem dX6_putsBack_5 : decode cX6_putsBack 5 = .ok (.if_icmp .ge 21, 3) := by decide +kernel
theorem dX6_putsBack_8 : decode cX6_putsBack 8 = .ok (.aload_n 0, 1) := by decide +kernel
theorem dX6_putsBack_9 : decode cX6_putsBack 9 = .ok (.getfield 7, 3) := by decide +kernel
theorem dX6_putsBack_12 : decode cX6_putsBack 12 = .ok (.iload_n 1, 1) := by decide +kernel
theorem dX6_putsBack_13 : decode cX6_putsBack 13 = .ok (.aload_n 0, 1) := by decide +kernel
theorem dX6_putsBack_14 : decode cX6_putsBack 14 = .ok (.getfield 16, 3) := by decide +kernel
theorem dX6_putsBack_17 : decode cX6_putsBack 17 = .ok (.iload_n 1, 1) := by decide +kernel
theorem dX6_putsBack_18 : decode cX6_putsBack 18 = .ok (.iaload, 1) := by decide +kernel
theorem dX6_putsBack_19 : decode cX6_putsBack 19 = .ok (.iastore, 1) := by decide +kernel
theorem dX6_putsBack_20 : decode cX6_putsBack 20 = .ok (.iinc 1 1, 3) := by decide +kernel
theorem dX6_putsBack_23 : decode cX6_putsBack 23 = .ok (.goto (-21), 3) := by decide +kernel
theorem dX6_putsBack_26 : decode cX6_putsBack 26 = .ok (.return_, 1) := by decide +kernel
theorem dX6_laysAside_0 : decode cX6_laysAside 0 = .ok (.iconst 0, 1) := by decide +kernel
theorem dX6_laysAside_1 : decode cX6_laysAside 1 = .ok (.istore_n 1, 1) := by decide +kernel
theorem dX6_laysAside_2 : decode cX6_laysAside 2 = .ok (.iload_n 1, 1) := by decide +kernel
theorem dX6_laysAside_3 : decode cX6_laysAside 3 = .ok (.bipush 61, 2) := by decide +kernel
theorem dX6_laysAside_5 : decode cX6_laysAside 5 = .ok (.if_icmp .ge 21, 3) := by decide +kernel
theorem dX6_laysAside_8 : decode cX6_laysAside 8 = .ok (.aload_n 0, 1) := by decide +kernel
theorem dX6_laysAside_9 : decode cX6_laysAside 9 = .ok (.getfield 19, 3) := by decide +kernel
theorem dX6_laysAside_12 : decode cX6_laysAside 12 = .ok (.iload_n 1, 1) := by decide +kernel
theorem dX6_laysAside_13 : decode cX6_laysAside 13 = .ok (.aload_n 0, 1) := by decide +kernel
theorem dX6_laysAside_14 : decode cX6_laysAside 14 = .ok (.getfield 7, 3) := by decide +kernel
theorem dX6_laysAside_17 : decode cX6_laysAside 17 = .ok (.iload_n 1, 1) := by decide +kernel
theorem dX6_laysAside_18 : decode cX6_laysAside 18 = .ok (.iaload, 1) := by decide +kernel
theorem dX6_laysAside_19 : decode cX6_laysAside 19 = .ok (.iastore, 1) := by decide +kernel
theorem dX6_laysAside_20 : decode cX6_laysAside 20 = .ok (.iinc 1 1, 3) := by decide +kernel
theorem dX6_laysAside_23 : decode cX6_laysAside 23 = .ok (.goto (-21), 3) := by decide +kernel
theorem dX6_laysAside_26 : decode cX6_laysAside 26 = .ok (.return_, 1) := by decide +kernel
theorem dX6_takesBack_0 : decode cX6_takesBack 0 = .ok (.iconst 0, 1) := by decide +kernel
theorem dX6_takesBack_1 : decode cX6_takesBack 1 = .ok (.istore_n 2, 1) := by decide +kernel
theorem dX6_takesBack_2 : decode cX6_takesBack 2 = .ok (.iload_n 2, 1) := by decide +kernel
theorem dX6_takesBack_3 : decode cX6_takesBack 3 = .ok (.bipush 61, 2) := by decide +kernel
theorem dX6_takesBack_5 : decode cX6_takesBack 5 = .ok (.if_icmp .ge 21, 3) := by decide +kernel
theorem dX6_takesBack_8 : decode cX6_takesBack 8 = .ok (.aload_n 0, 1) := by decide +kernel
theorem dX6_takesBack_9 : decode cX6_takesBack 9 = .ok (.getfield 7, 3) := by decide +kernel
theorem dX6_takesBack_12 : decode cX6_takesBack 12 = .ok (.iload_n 2, 1) := by decide +kernel
theorem dX6_takesBack_13 : decode cX6_takesBack 13 = .ok (.aload_n 0, 1) := by decide +kernel
theorem dX6_takesBack_14 : decode cX6_takesBack 14 = .ok (.getfield 19, 3) := by decide +kernel
theorem dX6_takesBack_17 : decode cX6_takesBack 17 = .ok (.iload_n 2, 1) := by decide +kernel
theorem dX6_takesBack_18 : decode cX6_takesBack 18 = .ok (.iaload, 1) := by decide +kernel
theorem dX6_takesBack_19 : decode cX6_takesBack 19 = .ok (.iastore, 1) := by decide +kernel
theorem dX6_takesBack_20 : decode cX6_takesBack 20 = .ok (.iinc 2 1, 3) := by decide +kernel
theorem dX6_takesBack_23 : decode cX6_takesBack 23 = .ok (.goto (-21), 3) := by decide +kernel
theorem dX6_takesBack_26 : decode cX6_takesBack 26 = .ok (.iload_n 1, 1) := by decide +kernel
theorem dX6_takesBack_27 : decode cX6_takesBack 27 = .ok (.ireturn, 1) := by decide +kernel
theorem dX6_becomes_0 : decode cX6_becomes 0 = .ok (.aload_n 0, 1) := by decide +kernel
theorem dX6_becomes_1 : decode cX6_becomes 1 = .ok (.getfield 7, 3) := by decide +kernel
theorem dX6_becomes_4 : decode cX6_becomes 4 = .ok (.iload_n 1, 1) := by decide +kernel
theorem dX6_becomes_5 : decode cX6_becomes 5 = .ok (.iaload, 1) := by decide +kernel
theorem dX6_becomes_6 : decode cX6_becomes 6 = .ok (.istore_n 3, 1) := by decide +kernel
theorem dX6_becomes_7 : decode cX6_becomes 7 = .ok (.aload_n 0, 1) := by decide +kernel
theorem dX6_becomes_8 : decode cX6_becomes 8 = .ok (.getfield 7, 3) := by decide +kernel
theorem dX6_becomes_11 : decode cX6_becomes 11 = .ok (.iload_n 1, 1) := by decide +kernel
theorem dX6_becomes_12 : decode cX6_becomes 12 = .ok (.iload_n 2, 1) := by decide +kernel
theorem dX6_becomes_13 : decode cX6_becomes 13 = .ok (.iastore, 1) := by decide +kernel
theorem dX6_becomes_14 : decode cX6_becomes 14 = .ok (.iload_n 3, 1) := by decide +kernel
theorem dX6_becomes_15 : decode cX6_becomes 15 = .ok (.ireturn, 1) := by decide +kernel
theorem dX6_isCalendar_0 : decode cX6_isCalendar 0 = .ok (.iload_n 1, 1) := by decide +kernel
theorem dX6_isCalendar_1 : decode cX6_isCalendar 1 = .ok (.i2l, 1) := by decide +kernel
theorem dX6_isCalendar_2 : decode cX6_isCalendar 2 = .ok (.lconst 0, 1) := by decide +kernel
theorem dX6_isCalendar_3 : decode cX6_isCalendar 3 = .ok (.aload_n 0, 1) := by decide +kernel
theorem dX6_isCalendar_4 : decode cX6_isCalendar 4 = .ok (.getfield 7, 3) := by decide +kernel
theorem dX6_isCalendar_7 : decode cX6_isCalendar 7 = .ok (.iconst 0, 1) := by decide +kernel
theorem dX6_isCalendar_8 : decode cX6_isCalendar 8 = .ok (.iaload, 1) := by decide +kernel
theorem dX6_isCalendar_9 : decode cX6_isCalendar 9 = .ok (.iconst 1, 1) := by decide +kernel
theorem dX6_isCalendar_10 : decode cX6_isCalendar 10 = .ok (.isub, 1) := by decide +kernel
theorem dX6_isCalendar_11 : decode cX6_isCalendar 11 = .ok (.i2l, 1) := by decide +kernel
theorem dX6_isCalendar_12 : decode cX6_isCalendar 12 = .ok (.invokestatic 42, 3) := by decide +kernel
theorem dX6_isCalendar_15 : decode cX6_isCalendar 15 = .ok (.ireturn, 1) := by decide +kernel
theorem dX6_areTwo_0 : decode cX6_areTwo 0 = .ok (.aload_n 0, 1) := by decide +kernel
theorem dX6_areTwo_1 : decode cX6_areTwo 1 = .ok (.iload_n 1, 1) := by decide +kernel
theorem dX6_areTwo_2 : decode cX6_areTwo 2 = .ok (.invokevirtual 46, 3) := by decide +kernel
theorem dX6_areTwo_5 : decode cX6_areTwo 5 = .ok (.ifCond .eq 20, 3) := by decide +kernel
theorem dX6_areTwo_8 : decode cX6_areTwo 8 = .ok (.aload_n 0, 1) := by decide +kernel
theorem dX6_areTwo_9 : decode cX6_areTwo 9 = .ok (.iload_n 2, 1) := by decide +kernel
theorem dX6_areTwo_10 : decode cX6_areTwo 10 = .ok (.invokevirtual 46, 3) := by decide +kernel
theorem dX6_areTwo_13 : decode cX6_areTwo 13 = .ok (.ifCond .eq 12, 3) := by decide +kernel
theorem dX6_areTwo_16 : decode cX6_areTwo 16 = .ok (.iload_n 1, 1) := by decide +kernel
theorem dX6_areTwo_17 : decode cX6_areTwo 17 = .ok (.iload_n 2, 1) := by decide +kernel
theorem dX6_areTwo_18 : decode cX6_areTwo 18 = .ok (.if_icmp .eq 7, 3) := by decide +kernel
theorem dX6_areTwo_21 : decode cX6_areTwo 21 = .ok (.iconst 1, 1) := by decide +kernel
theorem dX6_areTwo_22 : decode cX6_areTwo 22 = .ok (.goto 4, 3) := by decide +kernel
theorem dX6_areTwo_25 : decode cX6_areTwo 25 = .ok (.iconst 0, 1) := by decide +kernel
theorem dX6_areTwo_26 : decode cX6_areTwo 26 = .ok (.ireturn, 1) := by decide +kernel
theorem dX6_isPilgrim_0 : decode cX6_isPilgrim 0 = .ok (.iload_n 1, 1) := by decide +kernel
theorem dX6_isPilgrim_1 : decode cX6_isPilgrim 1 = .ok (.i2l, 1) := by decide +kernel
theorem dX6_isPilgrim_2 : decode cX6_isPilgrim 2 = .ok (.lconst 0, 1) := by decide +kernel
theorem dX6_isPilgrim_3 : decode cX6_isPilgrim 3 = .ok (.aload_n 0, 1) := by decide +kernel
theorem dX6_isPilgrim_4 : decode cX6_isPilgrim 4 = .ok (.getfield 7, 3) := by decide +kernel
theorem dX6_isPilgrim_7 : decode cX6_isPilgrim 7 = .ok (.iconst 1, 1) := by decide +kernel
theorem dX6_isPilgrim_8 : decode cX6_isPilgrim 8 = .ok (.iaload, 1) := by decide +kernel
theorem dX6_isPilgrim_9 : decode cX6_isPilgrim 9 = .ok (.iconst 1, 1) := by decide +kernel
theorem dX6_isPilgrim_10 : decode cX6_isPilgrim 10 = .ok (.isub, 1) := by decide +kernel
theorem dX6_isPilgrim_11 : decode cX6_isPilgrim 11 = .ok (.i2l, 1) := by decide +kernel
theorem dX6_isPilgrim_12 : decode cX6_isPilgrim 12 = .ok (.invokestatic 42, 3) := by decide +kernel
theorem dX6_isPilgrim_15 : decode cX6_isPilgrim 15 = .ok (.ireturn, 1) := by decide +kernel
theorem dX6_isKind_0 : decode cX6_isKind 0 = .ok (.iload_n 0, 1) := by decide +kernel
theorem dX6_isKind_1 : decode cX6_isKind 1 = .ok (.i2l, 1) := by decide +kernel
theorem dX6_isKind_2 : decode cX6_isKind 2 = .ok (.lconst 0, 1) := by decide +kernel
theorem dX6_isKind_3 : decode cX6_isKind 3 = .ok (.ldc2_w 50, 3) := by decide +kernel
theorem dX6_isKind_6 : decode cX6_isKind 6 = .ok (.invokestatic 42, 3) := by decide +kernel
theorem dX6_isKind_9 : decode cX6_isKind 9 = .ok (.ireturn, 1) := by decide +kernel
theorem dX6_its_0 : decode cX6_its 0 = .ok (.aload_n 0, 1) := by decide +kernel
theorem dX6_its_1 : decode cX6_its 1 = .ok (.getfield 7, 3) := by decide +kernel
theorem dX6_its_4 : decode cX6_its 4 = .ok (.bipush 7, 2) := by decide +kernel
theorem dX6_its_6 : decode cX6_its 6 = .ok (.iconst 5, 1) := by decide +kernel
theorem dX6_its_7 : decode cX6_its 7 = .ok (.iload_n 1, 1) := by decide +kernel
theorem dX6_its_8 : decode cX6_its 8 = .ok (.imul, 1) := by decide +kernel
theorem dX6_its_9 : decode cX6_its 9 = .ok (.iadd, 1) := by decide +kernel
theorem dX6_its_10 : decode cX6_its 10 = .ok (.iload_n 2, 1) := by decide +kernel
theorem dX6_its_11 : decode cX6_its 11 = .ok (.iadd, 1) := by decide +kernel
theorem dX6_its_12 : decode cX6_its 12 = .ok (.iaload, 1) := by decide +kernel
theorem dX6_its_13 : decode cX6_its 13 = .ok (.ireturn, 1) := by decide +kernel
theorem dX6_spot_0 : decode cX6_spot 0 = .ok (.bipush 37, 2) := by decide +kernel
theorem dX6_spot_2 : decode cX6_spot 2 = .ok (.iconst 3, 1) := by decide +kernel
theorem dX6_spot_3 : decode cX6_spot 3 = .ok (.iload_n 0, 1) := by decide +kernel
theorem dX6_spot_4 : decode cX6_spot 4 = .ok (.imul, 1) := by decide +kernel
theorem dX6_spot_5 : decode cX6_spot 5 = .ok (.iadd, 1) := by decide +kernel
theorem dX6_spot_6 : decode cX6_spot 6 = .ok (.iload_n 1, 1) := by decide +kernel
theorem dX6_spot_7 : decode cX6_spot 7 = .ok (.iadd, 1) := by decide +kernel
theorem dX6_spot_8 : decode cX6_spot 8 = .ok (.ireturn, 1) := by decide +kernel
theorem dX6_isOf_0 : decode cX6_isOf 0 = .ok (.aload_n 0, 1) := by decide +kernel
theorem dX6_isOf_1 : decode cX6_isOf 1 = .ok (.getfield 7, 3) := by decide +kernel
theorem dX6_isOf_4 : decode cX6_isOf 4 = .ok (.iload_n 1, 1) := by decide +kernel
theorem dX6_isOf_5 : decode cX6_isOf 5 = .ok (.iload_n 2, 1) := by decide +kernel
theorem dX6_isOf_6 : decode cX6_isOf 6 = .ok (.invokestatic 52, 3) := by decide +kernel
theorem dX6_isOf_9 : decode cX6_isOf 9 = .ok (.iaload, 1) := by decide +kernel
theorem dX6_isOf_10 : decode cX6_isOf 10 = .ok (.ireturn, 1) := by decide +kernel
theorem dX6_adds_0 : decode cX6_adds 0 = .ok (.bipush 7, 2) := by decide +kernel
theorem dX6_adds_2 : decode cX6_adds 2 = .ok (.iconst 5, 1) := by decide +kernel
theorem dX6_adds_3 : decode cX6_adds 3 = .ok (.aload_n 0, 1) := by decide +kernel
theorem dX6_adds_4 : decode cX6_adds 4 = .ok (.getfield 7, 3) := by decide +kernel
theorem dX6_adds_7 : decode cX6_adds 7 = .ok (.iconst 0, 1) := by decide +kernel
theorem dX6_adds_8 : decode cX6_adds 8 = .ok (.iaload, 1) := by decide +kernel
theorem dX6_adds_9 : decode cX6_adds 9 = .ok (.imul, 1) := by decide +kernel
theorem dX6_adds_10 : decode cX6_adds 10 = .ok (.iadd, 1) := by decide +kernel
theorem dX6_adds_11 : decode cX6_adds 11 = .ok (.istore_n 2, 1) := by decide +kernel
theorem dX6_adds_12 : decode cX6_adds 12 = .ok (.aload_n 0, 1) := by decide +kernel
theorem dX6_adds_13 : decode cX6_adds 13 = .ok (.getfield 7, 3) := by decide +kernel
theorem dX6_adds_16 : decode cX6_adds 16 = .ok (.iload_n 2, 1) := by decide +kernel
theorem dX6_adds_17 : decode cX6_adds 17 = .ok (.iconst 0, 1) := by decide +kernel
theorem dX6_adds_18 : decode cX6_adds 18 = .ok (.iadd, 1) := by decide +kernel
theorem dX6_adds_19 : decode cX6_adds 19 = .ok (.iload_n 1, 1) := by decide +kernel
theorem dX6_adds_20 : decode cX6_adds 20 = .ok (.iastore, 1) := by decide +kernel
theorem dX6_adds_21 : decode cX6_adds 21 = .ok (.aload_n 0, 1) := by decide +kernel
theorem dX6_adds_22 : decode cX6_adds 22 = .ok (.getfield 7, 3) := by decide +kernel
theorem dX6_adds_25 : decode cX6_adds 25 = .ok (.iload_n 2, 1) := by decide +kernel
theorem dX6_adds_26 : decode cX6_adds 26 = .ok (.iconst 1, 1) := by decide +kernel
theorem dX6_adds_27 : decode cX6_adds 27 = .ok (.iadd, 1) := by decide +kernel
theorem dX6_adds_28 : decode cX6_adds 28 = .ok (.iconst 0, 1) := by decide +kernel
theorem dX6_adds_29 : decode cX6_adds 29 = .ok (.iastore, 1) := by decide +kernel
theorem dX6_adds_30 : decode cX6_adds 30 = .ok (.aload_n 0, 1) := by decide +kernel
theorem dX6_adds_31 : decode cX6_adds 31 = .ok (.getfield 7, 3) := by decide +kernel
theorem dX6_adds_34 : decode cX6_adds 34 = .ok (.iload_n 2, 1) := by decide +kernel
theorem dX6_adds_35 : decode cX6_adds 35 = .ok (.iconst 2, 1) := by decide +kernel
theorem dX6_adds_36 : decode cX6_adds 36 = .ok (.iadd, 1) := by decide +kernel
theorem dX6_adds_37 : decode cX6_adds 37 = .ok (.bipush 30, 2) := by decide +kernel
theorem dX6_adds_39 : decode cX6_adds 39 = .ok (.iastore, 1) := by decide +kernel
theorem dX6_adds_40 : decode cX6_adds 40 = .ok (.aload_n 0, 1) := by decide +kernel
theorem dX6_adds_41 : decode cX6_adds 41 = .ok (.getfield 7, 3) := by decide +kernel
theorem dX6_adds_44 : decode cX6_adds 44 = .ok (.iload_n 2, 1) := by decide +kernel
theorem dX6_adds_45 : decode cX6_adds 45 = .ok (.iconst 3, 1) := by decide +kernel
theorem dX6_adds_46 : decode cX6_adds 46 = .ok (.iadd, 1) := by decide +kernel
theorem dX6_adds_47 : decode cX6_adds 47 = .ok (.bipush 11, 2) := by decide +kernel
theorem dX6_adds_49 : decode cX6_adds 49 = .ok (.iastore, 1) := by decide +kernel
theorem dX6_adds_50 : decode cX6_adds 50 = .ok (.aload_n 0, 1) := by decide +kernel
theorem dX6_adds_51 : decode cX6_adds 51 = .ok (.getfield 7, 3) := by decide +kernel
theorem dX6_adds_54 : decode cX6_adds 54 = .ok (.iload_n 2, 1) := by decide +kernel
theorem dX6_adds_55 : decode cX6_adds 55 = .ok (.iconst 4, 1) := by decide +kernel
theorem dX6_adds_56 : decode cX6_adds 56 = .ok (.iadd, 1) := by decide +kernel
theorem dX6_adds_57 : decode cX6_adds 57 = .ok (.bipush 50, 2) := by decide +kernel
theorem dX6_adds_59 : decode cX6_adds 59 = .ok (.iastore, 1) := by decide +kernel
theorem dX6_adds_60 : decode cX6_adds 60 = .ok (.aload_n 0, 1) := by decide +kernel
theorem dX6_adds_61 : decode cX6_adds 61 = .ok (.getfield 7, 3) := by decide +kernel
theorem dX6_adds_64 : decode cX6_adds 64 = .ok (.iconst 0, 1) := by decide +kernel
theorem dX6_adds_65 : decode cX6_adds 65 = .ok (.dup2, 1) := by decide +kernel
theorem dX6_adds_66 : decode cX6_adds 66 = .ok (.iaload, 1) := by decide +kernel
theorem dX6_adds_67 : decode cX6_adds 67 = .ok (.iconst 1, 1) := by decide +kernel
theorem dX6_adds_68 : decode cX6_adds 68 = .ok (.iadd, 1) := by decide +kernel
theorem dX6_adds_69 : decode cX6_adds 69 = .ok (.iastore, 1) := by decide +kernel
theorem dX6_adds_70 : decode cX6_adds 70 = .ok (.aload_n 0, 1) := by decide +kernel
theorem dX6_adds_71 : decode cX6_adds 71 = .ok (.getfield 7, 3) := by decide +kernel
theorem dX6_adds_74 : decode cX6_adds 74 = .ok (.iconst 0, 1) := by decide +kernel
theorem dX6_adds_75 : decode cX6_adds 75 = .ok (.iaload, 1) := by decide +kernel
theorem dX6_adds_76 : decode cX6_adds 76 = .ok (.iconst 1, 1) := by decide +kernel
theorem dX6_adds_77 : decode cX6_adds 77 = .ok (.isub, 1) := by decide +kernel
theorem dX6_adds_78 : decode cX6_adds 78 = .ok (.ireturn, 1) := by decide +kernel
theorem dX6_calendar_0 : decode cX6_calendar 0 = .ok (.iload_n 1, 1) := by decide +kernel
theorem dX6_calendar_1 : decode cX6_calendar 1 = .ok (.invokestatic 56, 3) := by decide +kernel
theorem dX6_calendar_4 : decode cX6_calendar 4 = .ok (.ifCond .ne 10, 3) := by decide +kernel
theorem dX6_calendar_7 : decode cX6_calendar 7 = .ok (.aload_n 0, 1) := by decide +kernel
theorem dX6_calendar_8 : decode cX6_calendar 8 = .ok (.ldc 41, 2) := by decide +kernel
theorem dX6_calendar_10 : decode cX6_calendar 10 = .ok (.invokevirtual 59, 3) := by decide +kernel
theorem dX6_calendar_13 : decode cX6_calendar 13 = .ok (.ireturn, 1) := by decide +kernel
theorem dX6_calendar_14 : decode cX6_calendar 14 = .ok (.aload_n 0, 1) := by decide +kernel
theorem dX6_calendar_15 : decode cX6_calendar 15 = .ok (.getfield 7, 3) := by decide +kernel
theorem dX6_calendar_18 : decode cX6_calendar 18 = .ok (.iconst 0, 1) := by decide +kernel
theorem dX6_calendar_19 : decode cX6_calendar 19 = .ok (.iaload, 1) := by decide +kernel
theorem dX6_calendar_20 : decode cX6_calendar 20 = .ok (.bipush 6, 2) := by decide +kernel
theorem dX6_calendar_22 : decode cX6_calendar 22 = .ok (.if_icmp .ne 12, 3) := by decide +kernel
theorem dX6_calendar_25 : decode cX6_calendar 25 = .ok (.aload_n 0, 1) := by decide +kernel
theorem dX6_calendar_26 : decode cX6_calendar 26 = .ok (.ldc 63, 2) := by decide +kernel
theorem dX6_calendar_28 : decode cX6_calendar 28 = .ok (.invokevirtual 59, 3) := by decide +kernel
theorem dX6_calendar_31 : decode cX6_calendar 31 = .ok (.goto 8, 3) := by decide +kernel
theorem dX6_calendar_34 : decode cX6_calendar 34 = .ok (.aload_n 0, 1) := by decide +kernel
theorem dX6_calendar_35 : decode cX6_calendar 35 = .ok (.iload_n 1, 1) := by decide +kernel
theorem dX6_calendar_36 : decode cX6_calendar 36 = .ok (.invokevirtual 64, 3) := by decide +kernel
theorem dX6_calendar_39 : decode cX6_calendar 39 = .ok (.ireturn, 1) := by decide +kernel
theorem dX6_of_0 : decode cX6_of 0 = .ok (.aload_n 0, 1) := by decide +kernel
theorem dX6_of_1 : decode cX6_of 1 = .ok (.iload_n 1, 1) := by decide +kernel
theorem dX6_of_2 : decode cX6_of 2 = .ok (.invokevirtual 46, 3) := by decide +kernel
theorem dX6_of_5 : decode cX6_of 5 = .ok (.ifCond .eq 24, 3) := by decide +kernel
theorem dX6_of_8 : decode cX6_of 8 = .ok (.iload_n 2, 1) := by decide +kernel
theorem dX6_of_9 : decode cX6_of 9 = .ok (.i2l, 1) := by decide +kernel
theorem dX6_of_10 : decode cX6_of 10 = .ok (.lconst 0, 1) := by decide +kernel
theorem dX6_of_11 : decode cX6_of 11 = .ok (.ldc2_w 67, 3) := by decide +kernel
theorem dX6_of_14 : decode cX6_of 14 = .ok (.invokestatic 42, 3) := by decide +kernel
theorem dX6_of_17 : decode cX6_of 17 = .ok (.ifCond .eq 12, 3) := by decide +kernel
theorem dX6_of_20 : decode cX6_of 20 = .ok (.aload_n 0, 1) := by decide +kernel
theorem dX6_of_21 : decode cX6_of 21 = .ok (.iload_n 1, 1) := by decide +kernel
theorem dX6_of_22 : decode cX6_of 22 = .ok (.iload_n 2, 1) := by decide +kernel
theorem dX6_of_23 : decode cX6_of 23 = .ok (.invokevirtual 69, 3) := by decide +kernel
theorem dX6_of_26 : decode cX6_of 26 = .ok (.goto 9, 3) := by decide +kernel
theorem dX6_of_29 : decode cX6_of 29 = .ok (.aload_n 0, 1) := by decide +kernel
theorem dX6_of_30 : decode cX6_of 30 = .ok (.ldc 41, 2) := by decide +kernel
theorem dX6_of_32 : decode cX6_of 32 = .ok (.invokevirtual 59, 3) := by decide +kernel
theorem dX6_of_35 : decode cX6_of 35 = .ok (.ireturn, 1) := by decide +kernel
theorem dX6_isPart_0 : decode cX6_isPart 0 = .ok (.iload_n 0, 1) := by decide +kernel
theorem dX6_isPart_1 : decode cX6_isPart 1 = .ok (.iconst 2, 1) := by decide +kernel
theorem dX6_isPart_2 : decode cX6_isPart 2 = .ok (.if_icmp .ne 15, 3) := by decide +kernel
theorem dX6_isPart_5 : decode cX6_isPart 5 = .ok (.iload_n 1, 1) := by decide +kernel
theorem dX6_isPart_6 : decode cX6_isPart 6 = .ok (.i2l, 1) := by decide +kernel
theorem dX6_isPart_7 : decode cX6_isPart 7 = .ok (.lconst 1, 1) := by decide +kernel
theorem dX6_isPart_8 : decode cX6_isPart 8 = .ok (.ldc2_w 72, 3) := by decide +kernel
theorem dX6_isPart_11 : decode cX6_isPart 11 = .ok (.invokestatic 42, 3) := by decide +kernel
theorem dX6_isPart_14 : decode cX6_isPart 14 = .ok (.goto 47, 3) := by decide +kernel
theorem dX6_isPart_17 : decode cX6_isPart 17 = .ok (.iload_n 0, 1) := by decide +kernel
theorem dX6_isPart_18 : decode cX6_isPart 18 = .ok (.iconst 4, 1) := by decide +kernel
theorem dX6_isPart_19 : decode cX6_isPart 19 = .ok (.if_icmp .ne 15, 3) := by decide +kernel
theorem dX6_isPart_22 : decode cX6_isPart 22 = .ok (.iload_n 1, 1) := by decide +kernel
theorem dX6_isPart_23 : decode cX6_isPart 23 = .ok (.i2l, 1) := by decide +kernel
theorem dX6_isPart_24 : decode cX6_isPart 24 = .ok (.lconst 0, 1) := by decide +kernel
theorem dX6_isPart_25 : decode cX6_isPart 25 = .ok (.ldc2_w 74, 3) := by decide +kernel
theorem dX6_isPart_28 : decode cX6_isPart 28 = .ok (.invokestatic 42, 3) := by decide +kernel
theorem dX6_isPart_31 : decode cX6_isPart 31 = .ok (.goto 30, 3) := by decide +kernel
theorem dX6_isPart_34 : decode cX6_isPart 34 = .ok (.iload_n 0, 1) := by decide +kernel
theorem dX6_isPart_35 : decode cX6_isPart 35 = .ok (.iconst 1, 1) := by decide +kernel
theorem dX6_isPart_36 : decode cX6_isPart 36 = .ok (.if_icmp .eq 8, 3) := by decide +kernel
theorem dX6_isPart_39 : decode cX6_isPart 39 = .ok (.iload_n 0, 1) := by decide +kernel
theorem dX6_isPart_40 : decode cX6_isPart 40 = .ok (.iconst 3, 1) := by decide +kernel
theorem dX6_isPart_41 : decode cX6_isPart 41 = .ok (.if_icmp .ne 19, 3) := by decide +kernel
theorem dX6_isPart_44 : decode cX6_isPart 44 = .ok (.iload_n 1, 1) := by decide +kernel
theorem dX6_isPart_45 : decode cX6_isPart 45 = .ok (.i2l, 1) := by decide +kernel
theorem dX6_isPart_46 : decode cX6_isPart 46 = .ok (.lconst 0, 1) := by decide +kernel
theorem dX6_isPart_47 : decode cX6_isPart 47 = .ok (.ldc2_w 76, 3) := by decide +kernel
theorem dX6_isPart_50 : decode cX6_isPart 50 = .ok (.invokestatic 42, 3) := by decide +kernel
theorem dX6_isPart_53 : decode cX6_isPart 53 = .ok (.ifCond .eq 7, 3) := by decide +kernel
theorem dX6_isPart_56 : decode cX6_isPart 56 = .ok (.iconst 1, 1) := by decide +kernel
theorem dX6_isPart_57 : decode cX6_isPart 57 = .ok (.goto 4, 3) := by decide +kernel
theorem dX6_isPart_60 : decode cX6_isPart 60 = .ok (.iconst 0, 1) := by decide +kernel
theorem dX6_isPart_61 : decode cX6_isPart 61 = .ok (.ireturn, 1) := by decide +kernel
theorem dX6_set_0 : decode cX6_set 0 = .ok (.aload_n 0, 1) := by decide +kernel
theorem dX6_set_1 : decode cX6_set 1 = .ok (.iload_n 1, 1) := by decide +kernel
theorem dX6_set_2 : decode cX6_set 2 = .ok (.invokevirtual 46, 3) := by decide +kernel
theorem dX6_set_5 : decode cX6_set 5 = .ok (.ifCond .eq 27, 3) := by decide +kernel
theorem dX6_set_8 : decode cX6_set 8 = .ok (.iload_n 2, 1) := by decide +kernel
theorem dX6_set_9 : decode cX6_set 9 = .ok (.iload_n 3, 1) := by decide +kernel
theorem dX6_set_10 : decode cX6_set 10 = .ok (.invokestatic 78, 3) := by decide +kernel
theorem dX6_set_13 : decode cX6_set 13 = .ok (.ifCond .eq 19, 3) := by decide +kernel
theorem dX6_set_16 : decode cX6_set 16 = .ok (.aload_n 0, 1) := by decide +kernel
theorem dX6_set_17 : decode cX6_set 17 = .ok (.bipush 7, 2) := by decide +kernel
theorem dX6_set_19 : decode cX6_set 19 = .ok (.iconst 5, 1) := by decide +kernel
theorem dX6_set_20 : decode cX6_set 20 = .ok (.iload_n 1, 1) := by decide +kernel
theorem dX6_set_21 : decode cX6_set 21 = .ok (.imul, 1) := by decide +kernel
theorem dX6_set_22 : decode cX6_set 22 = .ok (.iadd, 1) := by decide +kernel
theorem dX6_set_23 : decode cX6_set 23 = .ok (.iload_n 2, 1) := by decide +kernel
theorem dX6_set_24 : decode cX6_set 24 = .ok (.iadd, 1) := by decide +kernel
theorem dX6_set_25 : decode cX6_set 25 = .ok (.iload_n 3, 1) := by decide +kernel
theorem dX6_set_26 : decode cX6_set 26 = .ok (.invokevirtual 82, 3) := by decide +kernel
theorem dX6_set_29 : decode cX6_set 29 = .ok (.goto 9, 3) := by decide +kernel
theorem dX6_set_32 : decode cX6_set 32 = .ok (.aload_n 0, 1) := by decide +kernel
theorem dX6_set_33 : decode cX6_set 33 = .ok (.ldc 41, 2) := by decide +kernel
theorem dX6_set_35 : decode cX6_set 35 = .ok (.invokevirtual 59, 3) := by decide +kernel
theorem dX6_set_38 : decode cX6_set 38 = .ok (.ireturn, 1) := by decide +kernel
theorem dX6_turn_0 : decode cX6_turn 0 = .ok (.aload_n 0, 1) := by decide +kernel
theorem dX6_turn_1 : decode cX6_turn 1 = .ok (.iload_n 1, 1) := by decide +kernel
theorem dX6_turn_2 : decode cX6_turn 2 = .ok (.invokevirtual 46, 3) := by decide +kernel
theorem dX6_turn_5 : decode cX6_turn 5 = .ok (.ifCond .eq 26, 3) := by decide +kernel
theorem dX6_turn_8 : decode cX6_turn 8 = .ok (.iload_n 2, 1) := by decide +kernel
theorem dX6_turn_9 : decode cX6_turn 9 = .ok (.invokestatic 56, 3) := by decide +kernel
theorem dX6_turn_12 : decode cX6_turn 12 = .ok (.ifCond .eq 19, 3) := by decide +kernel
theorem dX6_turn_15 : decode cX6_turn 15 = .ok (.aload_n 0, 1) := by decide +kernel
theorem dX6_turn_16 : decode cX6_turn 16 = .ok (.bipush 7, 2) := by decide +kernel
theorem dX6_turn_18 : decode cX6_turn 18 = .ok (.iconst 5, 1) := by decide +kernel
theorem dX6_turn_19 : decode cX6_turn 19 = .ok (.iload_n 1, 1) := by decide +kernel
theorem dX6_turn_20 : decode cX6_turn 20 = .ok (.imul, 1) := by decide +kernel
theorem dX6_turn_21 : decode cX6_turn 21 = .ok (.iadd, 1) := by decide +kernel
theorem dX6_turn_22 : decode cX6_turn 22 = .ok (.iconst 0, 1) := by decide +kernel
theorem dX6_turn_23 : decode cX6_turn 23 = .ok (.iadd, 1) := by decide +kernel
theorem dX6_turn_24 : decode cX6_turn 24 = .ok (.iload_n 2, 1) := by decide +kernel
theorem dX6_turn_25 : decode cX6_turn 25 = .ok (.invokevirtual 82, 3) := by decide +kernel
theorem dX6_turn_28 : decode cX6_turn 28 = .ok (.goto 9, 3) := by decide +kernel
theorem dX6_turn_31 : decode cX6_turn 31 = .ok (.aload_n 0, 1) := by decide +kernel
theorem dX6_turn_32 : decode cX6_turn 32 = .ok (.ldc 41, 2) := by decide +kernel
theorem dX6_turn_34 : decode cX6_turn 34 = .ok (.invokevirtual 59, 3) := by decide +kernel
theorem dX6_turn_37 : decode cX6_turn 37 = .ok (.ireturn, 1) := by decide +kernel
theorem dX6_isUnder_0 : decode cX6_isUnder 0 = .ok (.iload_n 1, 1) := by decide +kernel
theorem dX6_isUnder_1 : decode cX6_isUnder 1 = .ok (.ifCond .eq 28, 3) := by decide +kernel
theorem dX6_isUnder_4 : decode cX6_isUnder 4 = .ok (.iload_n 0, 1) := by decide +kernel
theorem dX6_isUnder_5 : decode cX6_isUnder 5 = .ok (.iload_n 1, 1) := by decide +kernel
theorem dX6_isUnder_6 : decode cX6_isUnder 6 = .ok (.if_icmp .eq 23, 3) := by decide +kernel
theorem dX6_isUnder_9 : decode cX6_isUnder 9 = .ok (.iload_n 0, 1) := by decide +kernel
theorem dX6_isUnder_10 : decode cX6_isUnder 10 = .ok (.iconst 4, 1) := by decide +kernel
theorem dX6_isUnder_11 : decode cX6_isUnder 11 = .ok (.if_icmp .ne 8, 3) := by decide +kernel
theorem dX6_isUnder_14 : decode cX6_isUnder 14 = .ok (.iload_n 1, 1) := by decide +kernel
theorem dX6_isUnder_15 : decode cX6_isUnder 15 = .ok (.iconst 2, 1) := by decide +kernel
theorem dX6_isUnder_16 : decode cX6_isUnder 16 = .ok (.if_icmp .eq 13, 3) := by decide +kernel
theorem dX6_isUnder_19 : decode cX6_isUnder 19 = .ok (.iload_n 0, 1) := by decide +kernel
theorem dX6_isUnder_20 : decode cX6_isUnder 20 = .ok (.iconst 5, 1) := by decide +kernel
theorem dX6_isUnder_21 : decode cX6_isUnder 21 = .ok (.if_icmp .ne 12, 3) := by decide +kernel
theorem dX6_isUnder_24 : decode cX6_isUnder 24 = .ok (.iload_n 1, 1) := by decide +kernel
theorem dX6_isUnder_25 : decode cX6_isUnder 25 = .ok (.iconst 1, 1) := by decide +kernel
theorem dX6_isUnder_26 : decode cX6_isUnder 26 = .ok (.if_icmp .ne 7, 3) := by decide +kernel
theorem dX6_isUnder_29 : decode cX6_isUnder 29 = .ok (.iconst 1, 1) := by decide +kernel
theorem dX6_isUnder_30 : decode cX6_isUnder 30 = .ok (.goto 4, 3) := by decide +kernel
theorem dX6_isUnder_33 : decode cX6_isUnder 33 = .ok (.iconst 0, 1) := by decide +kernel
theorem dX6_isUnder_34 : decode cX6_isUnder 34 = .ok (.ireturn, 1) := by decide +kernel
theorem dX6_as_0 : decode cX6_as 0 = .ok (.aload_n 0, 1) := by decide +kernel
theorem dX6_as_1 : decode cX6_as 1 = .ok (.iload_n 1, 1) := by decide +kernel
theorem dX6_as_2 : decode cX6_as 2 = .ok (.invokevirtual 46, 3) := by decide +kernel
theorem dX6_as_5 : decode cX6_as 5 = .ok (.ifCond .eq 10, 3) := by decide +kernel
theorem dX6_as_8 : decode cX6_as 8 = .ok (.iload_n 2, 1) := by decide +kernel
theorem dX6_as_9 : decode cX6_as 9 = .ok (.invokestatic 56, 3) := by decide +kernel
theorem dX6_as_12 : decode cX6_as 12 = .ok (.ifCond .ne 10, 3) := by decide +kernel
theorem dX6_as_15 : decode cX6_as 15 = .ok (.aload_n 0, 1) := by decide +kernel
theorem dX6_as_16 : decode cX6_as 16 = .ok (.ldc 41, 2) := by decide +kernel
theorem dX6_as_18 : decode cX6_as 18 = .ok (.invokevirtual 59, 3) := by decide +kernel
theorem dX6_as_21 : decode cX6_as 21 = .ok (.ireturn, 1) := by decide +kernel
theorem dX6_as_22 : decode cX6_as 22 = .ok (.aload_n 0, 1) := by decide +kernel
theorem dX6_as_23 : decode cX6_as 23 = .ok (.iload_n 1, 1) := by decide +kernel
theorem dX6_as_24 : decode cX6_as 24 = .ok (.iconst 0, 1) := by decide +kernel
theorem dX6_as_25 : decode cX6_as 25 = .ok (.invokevirtual 69, 3) := by decide +kernel
theorem dX6_as_28 : decode cX6_as 28 = .ok (.iload_n 2, 1) := by decide +kernel
theorem dX6_as_29 : decode cX6_as 29 = .ok (.invokestatic 85, 3) := by decide +kernel
theorem dX6_as_32 : decode cX6_as 32 = .ok (.ifCond .eq 12, 3) := by decide +kernel
theorem dX6_as_35 : decode cX6_as 35 = .ok (.aload_n 0, 1) := by decide +kernel
theorem dX6_as_36 : decode cX6_as 36 = .ok (.iload_n 1, 1) := by decide +kernel
theorem dX6_as_37 : decode cX6_as 37 = .ok (.iconst 1, 1) := by decide +kernel
theorem dX6_as_38 : decode cX6_as 38 = .ok (.invokevirtual 69, 3) := by decide +kernel
theorem dX6_as_41 : decode cX6_as 41 = .ok (.goto 9, 3) := by decide +kernel
theorem dX6_as_44 : decode cX6_as 44 = .ok (.aload_n 0, 1) := by decide +kernel
theorem dX6_as_45 : decode cX6_as 45 = .ok (.ldc 88, 2) := by decide +kernel
theorem dX6_as_47 : decode cX6_as 47 = .ok (.invokevirtual 59, 3) := by decide +kernel
theorem dX6_as_50 : decode cX6_as 50 = .ok (.ireturn, 1) := by decide +kernel
theorem dX6_runs_0 : decode cX6_runs 0 = .ok (.iload_n 2, 1) := by decide +kernel
theorem dX6_runs_1 : decode cX6_runs 1 = .ok (.aload_n 0, 1) := by decide +kernel
theorem dX6_runs_2 : decode cX6_runs 2 = .ok (.iload_n 1, 1) := by decide +kernel
theorem dX6_runs_3 : decode cX6_runs 3 = .ok (.iconst 1, 1) := by decide +kernel
theorem dX6_runs_4 : decode cX6_runs 4 = .ok (.invokevirtual 69, 3) := by decide +kernel
theorem dX6_runs_7 : decode cX6_runs 7 = .ok (.iadd, 1) := by decide +kernel
theorem dX6_runs_8 : decode cX6_runs 8 = .ok (.istore_n 3, 1) := by decide +kernel
theorem dX6_runs_9 : decode cX6_runs 9 = .ok (.iload_n 3, 1) := by decide +kernel
theorem dX6_runs_10 : decode cX6_runs 10 = .ok (.iload_n 2, 1) := by decide +kernel
theorem dX6_runs_11 : decode cX6_runs 11 = .ok (.aload_n 0, 1) := by decide +kernel
theorem dX6_runs_12 : decode cX6_runs 12 = .ok (.iload_n 1, 1) := by decide +kernel
theorem dX6_runs_13 : decode cX6_runs 13 = .ok (.iconst 4, 1) := by decide +kernel
theorem dX6_runs_14 : decode cX6_runs 14 = .ok (.invokevirtual 69, 3) := by decide +kernel
theorem dX6_runs_17 : decode cX6_runs 17 = .ok (.if_icmp .lt 12, 3) := by decide +kernel
theorem dX6_runs_20 : decode cX6_runs 20 = .ok (.aload_n 0, 1) := by decide +kernel
theorem dX6_runs_21 : decode cX6_runs 21 = .ok (.iload_n 1, 1) := by decide +kernel
theorem dX6_runs_22 : decode cX6_runs 22 = .ok (.iconst 3, 1) := by decide +kernel
theorem dX6_runs_23 : decode cX6_runs 23 = .ok (.invokevirtual 69, 3) := by decide +kernel
theorem dX6_runs_26 : decode cX6_runs 26 = .ok (.goto 4, 3) := by decide +kernel
theorem dX6_runs_29 : decode cX6_runs 29 = .ok (.iconst 0, 1) := by decide +kernel
theorem dX6_runs_30 : decode cX6_runs 30 = .ok (.iadd, 1) := by decide +kernel
theorem dX6_runs_31 : decode cX6_runs 31 = .ok (.istore 4, 2) := by decide +kernel
theorem dX6_runs_33 : decode cX6_runs 33 = .ok (.aload_n 0, 1) := by decide +kernel
theorem dX6_runs_34 : decode cX6_runs 34 = .ok (.iload_n 1, 1) := by decide +kernel
theorem dX6_runs_35 : decode cX6_runs 35 = .ok (.iconst 0, 1) := by decide +kernel
theorem dX6_runs_36 : decode cX6_runs 36 = .ok (.invokevirtual 69, 3) := by decide +kernel
theorem dX6_runs_39 : decode cX6_runs 39 = .ok (.tableswitch 63 2 5 #[29, 32, 39, 54], 29) := by decide +kernel
theorem dX6_runs_68 : decode cX6_runs 68 = .ok (.iload 4, 2) := by decide +kernel
theorem dX6_runs_70 : decode cX6_runs 70 = .ok (.ireturn, 1) := by decide +kernel
theorem dX6_runs_71 : decode cX6_runs 71 = .ok (.iload_n 3, 1) := by decide +kernel
theorem dX6_runs_72 : decode cX6_runs 72 = .ok (.iload_n 2, 1) := by decide +kernel
theorem dX6_runs_73 : decode cX6_runs 73 = .ok (.bipush 7, 2) := by decide +kernel
theorem dX6_runs_75 : decode cX6_runs 75 = .ok (.idiv, 1) := by decide +kernel
theorem dX6_runs_76 : decode cX6_runs 76 = .ok (.iadd, 1) := by decide +kernel
theorem dX6_runs_77 : decode cX6_runs 77 = .ok (.ireturn, 1) := by decide +kernel
theorem dX6_runs_78 : decode cX6_runs 78 = .ok (.iload 4, 2) := by decide +kernel
theorem dX6_runs_80 : decode cX6_runs 80 = .ok (.iload 4, 2) := by decide +kernel
theorem dX6_runs_82 : decode cX6_runs 82 = .ok (.aload_n 0, 1) := by decide +kernel
theorem dX6_runs_83 : decode cX6_runs 83 = .ok (.iload_n 1, 1) := by decide +kernel
theorem dX6_runs_84 : decode cX6_runs 84 = .ok (.iconst 2, 1) := by decide +kernel
theorem dX6_runs_85 : decode cX6_runs 85 = .ok (.invokevirtual 69, 3) := by decide +kernel
theorem dX6_runs_88 : decode cX6_runs 88 = .ok (.idiv, 1) := by decide +kernel
theorem dX6_runs_89 : decode cX6_runs 89 = .ok (.iconst 4, 1) := by decide +kernel
theorem dX6_runs_90 : decode cX6_runs 90 = .ok (.idiv, 1) := by decide +kernel
theorem dX6_runs_91 : decode cX6_runs 91 = .ok (.iadd, 1) := by decide +kernel
theorem dX6_runs_92 : decode cX6_runs 92 = .ok (.ireturn, 1) := by decide +kernel
theorem dX6_runs_93 : decode cX6_runs 93 = .ok (.iload_n 3, 1) := by decide +kernel
theorem dX6_runs_94 : decode cX6_runs 94 = .ok (.iload_n 2, 1) := by decide +kernel
theorem dX6_runs_95 : decode cX6_runs 95 = .ok (.iconst 5, 1) := by decide +kernel
theorem dX6_runs_96 : decode cX6_runs 96 = .ok (.iadd, 1) := by decide +kernel
theorem dX6_runs_97 : decode cX6_runs 97 = .ok (.bipush 7, 2) := by decide +kernel
theorem dX6_runs_99 : decode cX6_runs 99 = .ok (.idiv, 1) := by decide +kernel
theorem dX6_runs_100 : decode cX6_runs 100 = .ok (.isub, 1) := by decide +kernel
theorem dX6_runs_101 : decode cX6_runs 101 = .ok (.ireturn, 1) := by decide +kernel
theorem dX6_runs_102 : decode cX6_runs 102 = .ok (.iload_n 3, 1) := by decide +kernel
theorem dX6_runs_103 : decode cX6_runs 103 = .ok (.ireturn, 1) := by decide +kernel
theorem dX6_dateOf_0 : decode cX6_dateOf 0 = .ok (.aload_n 0, 1) := by decide +kernel
theorem dX6_dateOf_1 : decode cX6_dateOf 1 = .ok (.iload_n 1, 1) := by decide +kernel
theorem dX6_dateOf_2 : decode cX6_dateOf 2 = .ok (.iload_n 2, 1) := by decide +kernel
theorem dX6_dateOf_3 : decode cX6_dateOf 3 = .ok (.invokevirtual 89, 3) := by decide +kernel
theorem dX6_dateOf_6 : decode cX6_dateOf 6 = .ok (.aload_n 0, 1) := by decide +kernel
theorem dX6_dateOf_7 : decode cX6_dateOf 7 = .ok (.iload_n 1, 1) := by decide +kernel
theorem dX6_dateOf_8 : decode cX6_dateOf 8 = .ok (.iconst 2, 1) := by decide +kernel
theorem dX6_dateOf_9 : decode cX6_dateOf 9 = .ok (.invokevirtual 69, 3) := by decide +kernel
theorem dX6_dateOf_12 : decode cX6_dateOf 12 = .ok (.irem, 1) := by decide +kernel
theorem dX6_dateOf_13 : decode cX6_dateOf 13 = .ok (.iconst 1, 1) := by decide +kernel
theorem dX6_dateOf_14 : decode cX6_dateOf 14 = .ok (.iadd, 1) := by decide +kernel
theorem dX6_dateOf_15 : decode cX6_dateOf 15 = .ok (.ireturn, 1) := by decide +kernel
theorem dX6_monthOf_0 : decode cX6_monthOf 0 = .ok (.aload_n 0, 1) := by decide +kernel
theorem dX6_monthOf_1 : decode cX6_monthOf 1 = .ok (.iload_n 1, 1) := by decide +kernel
theorem dX6_monthOf_2 : decode cX6_monthOf 2 = .ok (.iload_n 2, 1) := by decide +kernel
theorem dX6_monthOf_3 : decode cX6_monthOf 3 = .ok (.invokevirtual 89, 3) := by decide +kernel
theorem dX6_monthOf_6 : decode cX6_monthOf 6 = .ok (.aload_n 0, 1) := by decide +kernel
theorem dX6_monthOf_7 : decode cX6_monthOf 7 = .ok (.iload_n 1, 1) := by decide +kernel
theorem dX6_monthOf_8 : decode cX6_monthOf 8 = .ok (.iconst 2, 1) := by decide +kernel
theorem dX6_monthOf_9 : decode cX6_monthOf 9 = .ok (.invokevirtual 69, 3) := by decide +kernel
theorem dX6_monthOf_12 : decode cX6_monthOf 12 = .ok (.idiv, 1) := by decide +kernel
theorem dX6_monthOf_13 : decode cX6_monthOf 13 = .ok (.ireturn, 1) := by decide +kernel
theorem dX6_isHoly_0 : decode cX6_isHoly 0 = .ok (.aload_n 0, 1) := by decide +kernel
theorem dX6_isHoly_1 : decode cX6_isHoly 1 = .ok (.iload_n 1, 1) := by decide +kernel
theorem dX6_isHoly_2 : decode cX6_isHoly 2 = .ok (.invokevirtual 46, 3) := by decide +kernel
theorem dX6_isHoly_5 : decode cX6_isHoly 5 = .ok (.ifCond .ne 5, 3) := by decide +kernel
theorem dX6_isHoly_8 : decode cX6_isHoly 8 = .ok (.iconst 0, 1) := by decide +kernel
theorem dX6_isHoly_9 : decode cX6_isHoly 9 = .ok (.ireturn, 1) := by decide +kernel
theorem dX6_isHoly_10 : decode cX6_isHoly 10 = .ok (.aload_n 0, 1) := by decide +kernel
theorem dX6_isHoly_11 : decode cX6_isHoly 11 = .ok (.iload_n 1, 1) := by decide +kernel
theorem dX6_isHoly_12 : decode cX6_isHoly 12 = .ok (.iload_n 2, 1) := by decide +kernel
theorem dX6_isHoly_13 : decode cX6_isHoly 13 = .ok (.invokevirtual 92, 3) := by decide +kernel
theorem dX6_isHoly_16 : decode cX6_isHoly 16 = .ok (.istore_n 3, 1) := by decide +kernel
theorem dX6_isHoly_17 : decode cX6_isHoly 17 = .ok (.aload_n 0, 1) := by decide +kernel
theorem dX6_isHoly_18 : decode cX6_isHoly 18 = .ok (.iload_n 1, 1) := by decide +kernel
theorem dX6_isHoly_19 : decode cX6_isHoly 19 = .ok (.iconst 0, 1) := by decide +kernel
theorem dX6_isHoly_20 : decode cX6_isHoly 20 = .ok (.invokevirtual 69, 3) := by decide +kernel
theorem dX6_isHoly_23 : decode cX6_isHoly 23 = .ok (.tableswitch 81 3 5 #[25, 44, 61], 25) := by decide +kernel
theorem dX6_isHoly_48 : decode cX6_isHoly 48 = .ok (.iload_n 3, 1) := by decide +kernel
theorem dX6_isHoly_49 : decode cX6_isHoly 49 = .ok (.aload_n 0, 1) := by decide +kernel
theorem dX6_isHoly_50 : decode cX6_isHoly 50 = .ok (.iload_n 1, 1) := by decide +kernel
theorem dX6_isHoly_51 : decode cX6_isHoly 51 = .ok (.iload_n 2, 1) := by decide +kernel
theorem dX6_isHoly_52 : decode cX6_isHoly 52 = .ok (.invokevirtual 95, 3) := by decide +kernel
theorem dX6_isHoly_55 : decode cX6_isHoly 55 = .ok (.iadd, 1) := by decide +kernel
theorem dX6_isHoly_56 : decode cX6_isHoly 56 = .ok (.iconst 2, 1) := by decide +kernel
theorem dX6_isHoly_57 : decode cX6_isHoly 57 = .ok (.irem, 1) := by decide +kernel
theorem dX6_isHoly_58 : decode cX6_isHoly 58 = .ok (.ifCond .ne 7, 3) := by decide +kernel
theorem dX6_isHoly_61 : decode cX6_isHoly 61 = .ok (.iconst 1, 1) := by decide +kernel
theorem dX6_isHoly_62 : decode cX6_isHoly 62 = .ok (.goto 4, 3) := by decide +kernel
theorem dX6_isHoly_65 : decode cX6_isHoly 65 = .ok (.iconst 0, 1) := by decide +kernel
theorem dX6_isHoly_66 : decode cX6_isHoly 66 = .ok (.ireturn, 1) := by decide +kernel
theorem dX6_isHoly_67 : decode cX6_isHoly 67 = .ok (.iload_n 3, 1) := by decide +kernel
theorem dX6_isHoly_68 : decode cX6_isHoly 68 = .ok (.iconst 2, 1) := by decide +kernel
theorem dX6_isHoly_69 : decode cX6_isHoly 69 = .ok (.irem, 1) := by decide +kernel
theorem dX6_isHoly_70 : decode cX6_isHoly 70 = .ok (.ifCond .eq 8, 3) := by decide +kernel
theorem dX6_isHoly_73 : decode cX6_isHoly 73 = .ok (.iload_n 3, 1) := by decide +kernel
theorem dX6_isHoly_74 : decode cX6_isHoly 74 = .ok (.iconst 1, 1) := by decide +kernel
theorem dX6_isHoly_75 : decode cX6_isHoly 75 = .ok (.if_icmp .ne 7, 3) := by decide +kernel
theorem dX6_isHoly_78 : decode cX6_isHoly 78 = .ok (.iconst 1, 1) := by decide +kernel
theorem dX6_isHoly_79 : decode cX6_isHoly 79 = .ok (.goto 4, 3) := by decide +kernel
theorem dX6_isHoly_82 : decode cX6_isHoly 82 = .ok (.iconst 0, 1) := by decide +kernel
theorem dX6_isHoly_83 : decode cX6_isHoly 83 = .ok (.ireturn, 1) := by decide +kernel
theorem dX6_isHoly_84 : decode cX6_isHoly 84 = .ok (.iload_n 3, 1) := by decide +kernel
theorem dX6_isHoly_85 : decode cX6_isHoly 85 = .ok (.iconst 2, 1) := by decide +kernel
theorem dX6_isHoly_86 : decode cX6_isHoly 86 = .ok (.irem, 1) := by decide +kernel
theorem dX6_isHoly_87 : decode cX6_isHoly 87 = .ok (.ifCond .ne 15, 3) := by decide +kernel
theorem dX6_isHoly_90 : decode cX6_isHoly 90 = .ok (.iload_n 2, 1) := by decide +kernel
theorem dX6_isHoly_91 : decode cX6_isHoly 91 = .ok (.bipush 7, 2) := by decide +kernel
theorem dX6_isHoly_93 : decode cX6_isHoly 93 = .ok (.irem, 1) := by decide +kernel
theorem dX6_isHoly_94 : decode cX6_isHoly 94 = .ok (.iconst 2, 1) := by decide +kernel
theorem dX6_isHoly_95 : decode cX6_isHoly 95 = .ok (.if_icmp .eq 7, 3) := by decide +kernel
theorem dX6_isHoly_98 : decode cX6_isHoly 98 = .ok (.iconst 1, 1) := by decide +kernel
theorem dX6_isHoly_99 : decode cX6_isHoly 99 = .ok (.goto 4, 3) := by decide +kernel
theorem dX6_isHoly_102 : decode cX6_isHoly 102 = .ok (.iconst 0, 1) := by decide +kernel
theorem dX6_isHoly_103 : decode cX6_isHoly 103 = .ok (.ireturn, 1) := by decide +kernel
theorem dX6_isHoly_104 : decode cX6_isHoly 104 = .ok (.iload_n 3, 1) := by decide +kernel
theorem dX6_isHoly_105 : decode cX6_isHoly 105 = .ok (.iconst 2, 1) := by decide +kernel
theorem dX6_isHoly_106 : decode cX6_isHoly 106 = .ok (.irem, 1) := by decide +kernel
theorem dX6_isHoly_107 : decode cX6_isHoly 107 = .ok (.ifCond .ne 7, 3) := by decide +kernel
theorem dX6_isHoly_110 : decode cX6_isHoly 110 = .ok (.iconst 1, 1) := by decide +kernel
theorem dX6_isHoly_111 : decode cX6_isHoly 111 = .ok (.goto 4, 3) := by decide +kernel
theorem dX6_isHoly_114 : decode cX6_isHoly 114 = .ok (.iconst 0, 1) := by decide +kernel
theorem dX6_isHoly_115 : decode cX6_isHoly 115 = .ok (.ireturn, 1) := by decide +kernel
theorem dX6_date_0 : decode cX6_date 0 = .ok (.aload_n 0, 1) := by decide +kernel
theorem dX6_date_1 : decode cX6_date 1 = .ok (.iload_n 1, 1) := by decide +kernel
theorem dX6_date_2 : decode cX6_date 2 = .ok (.invokevirtual 46, 3) := by decide +kernel
theorem dX6_date_5 : decode cX6_date 5 = .ok (.ifCond .eq 27, 3) := by decide +kernel
theorem dX6_date_8 : decode cX6_date 8 = .ok (.iload_n 2, 1) := by decide +kernel
theorem dX6_date_9 : decode cX6_date 9 = .ok (.i2l, 1) := by decide +kernel
theorem dX6_date_10 : decode cX6_date 10 = .ok (.lconst 0, 1) := by decide +kernel
theorem dX6_date_11 : decode cX6_date 11 = .ok (.ldc2_w 98, 3) := by decide +kernel
theorem dX6_date_14 : decode cX6_date 14 = .ok (.invokestatic 42, 3) := by decide +kernel
theorem dX6_date_17 : decode cX6_date 17 = .ok (.ifCond .eq 15, 3) := by decide +kernel
theorem dX6_date_20 : decode cX6_date 20 = .ok (.iload_n 3, 1) := by decide +kernel
theorem dX6_date_21 : decode cX6_date 21 = .ok (.i2l, 1) := by decide +kernel
theorem dX6_date_22 : decode cX6_date 22 = .ok (.lconst 0, 1) := by decide +kernel
theorem dX6_date_23 : decode cX6_date 23 = .ok (.ldc2_w 100, 3) := by decide +kernel
theorem dX6_date_26 : decode cX6_date 26 = .ok (.invokestatic 42, 3) := by decide +kernel
theorem dX6_date_29 : decode cX6_date 29 = .ok (.ifCond .ne 10, 3) := by decide +kernel
theorem dX6_date_32 : decode cX6_date 32 = .ok (.aload_n 0, 1) := by decide +kernel
theorem dX6_date_33 : decode cX6_date 33 = .ok (.ldc 41, 2) := by decide +kernel
theorem dX6_date_35 : decode cX6_date 35 = .ok (.invokevirtual 59, 3) := by decide +kernel
theorem dX6_date_38 : decode cX6_date 38 = .ok (.ireturn, 1) := by decide +kernel
theorem dX6_date_39 : decode cX6_date 39 = .ok (.iload_n 3, 1) := by decide +kernel
theorem dX6_date_40 : decode cX6_date 40 = .ok (.tableswitch 57 0 2 #[28, 35, 42], 28) := by decide +kernel
theorem dX6_date_68 : decode cX6_date 68 = .ok (.aload_n 0, 1) := by decide +kernel
theorem dX6_date_69 : decode cX6_date 69 = .ok (.iload_n 1, 1) := by decide +kernel
theorem dX6_date_70 : decode cX6_date 70 = .ok (.iload_n 2, 1) := by decide +kernel
theorem dX6_date_71 : decode cX6_date 71 = .ok (.invokevirtual 92, 3) := by decide +kernel
theorem dX6_date_74 : decode cX6_date 74 = .ok (.ireturn, 1) := by decide +kernel
theorem dX6_date_75 : decode cX6_date 75 = .ok (.aload_n 0, 1) := by decide +kernel
theorem dX6_date_76 : decode cX6_date 76 = .ok (.iload_n 1, 1) := by decide +kernel
theorem dX6_date_77 : decode cX6_date 77 = .ok (.iload_n 2, 1) := by decide +kernel
theorem dX6_date_78 : decode cX6_date 78 = .ok (.invokevirtual 95, 3) := by decide +kernel
theorem dX6_date_81 : decode cX6_date 81 = .ok (.ireturn, 1) := by decide +kernel
theorem dX6_date_82 : decode cX6_date 82 = .ok (.aload_n 0, 1) := by decide +kernel
theorem dX6_date_83 : decode cX6_date 83 = .ok (.iload_n 1, 1) := by decide +kernel
theorem dX6_date_84 : decode cX6_date 84 = .ok (.iload_n 2, 1) := by decide +kernel
theorem dX6_date_85 : decode cX6_date 85 = .ok (.invokevirtual 102, 3) := by decide +kernel
theorem dX6_date_88 : decode cX6_date 88 = .ok (.ifCond .eq 7, 3) := by decide +kernel
theorem dX6_date_91 : decode cX6_date 91 = .ok (.iconst 1, 1) := by decide +kernel
theorem dX6_date_92 : decode cX6_date 92 = .ok (.goto 4, 3) := by decide +kernel
theorem dX6_date_95 : decode cX6_date 95 = .ok (.iconst 0, 1) := by decide +kernel
theorem dX6_date_96 : decode cX6_date 96 = .ok (.ireturn, 1) := by decide +kernel
theorem dX6_date_97 : decode cX6_date 97 = .ok (.aload_n 0, 1) := by decide +kernel
theorem dX6_date_98 : decode cX6_date 98 = .ok (.iload_n 1, 1) := by decide +kernel
theorem dX6_date_99 : decode cX6_date 99 = .ok (.iload_n 2, 1) := by decide +kernel
theorem dX6_date_100 : decode cX6_date 100 = .ok (.invokevirtual 89, 3) := by decide +kernel
theorem dX6_date_103 : decode cX6_date 103 = .ok (.ireturn, 1) := by decide +kernel
theorem dX6_law_0 : decode cX6_law 0 = .ok (.iload_n 1, 1) := by decide +kernel
theorem dX6_law_1 : decode cX6_law 1 = .ok (.ifCond .ne 15, 3) := by decide +kernel
theorem dX6_law_4 : decode cX6_law 4 = .ok (.iload_n 2, 1) := by decide +kernel
theorem dX6_law_5 : decode cX6_law 5 = .ok (.i2l, 1) := by decide +kernel
theorem dX6_law_6 : decode cX6_law 6 = .ok (.lconst 1, 1) := by decide +kernel
theorem dX6_law_7 : decode cX6_law 7 = .ok (.ldc2_w 105, 3) := by decide +kernel
theorem dX6_law_10 : decode cX6_law 10 = .ok (.invokestatic 42, 3) := by decide +kernel
theorem dX6_law_13 : decode cX6_law 13 = .ok (.goto 25, 3) := by decide +kernel
theorem dX6_law_16 : decode cX6_law 16 = .ok (.iload_n 1, 1) := by decide +kernel
theorem dX6_law_17 : decode cX6_law 17 = .ok (.iconst 1, 1) := by decide +kernel
theorem dX6_law_18 : decode cX6_law 18 = .ok (.if_icmp .ne 19, 3) := by decide +kernel
theorem dX6_law_21 : decode cX6_law 21 = .ok (.iload_n 2, 1) := by decide +kernel
theorem dX6_law_22 : decode cX6_law 22 = .ok (.i2l, 1) := by decide +kernel
theorem dX6_law_23 : decode cX6_law 23 = .ok (.lconst 0, 1) := by decide +kernel
theorem dX6_law_24 : decode cX6_law 24 = .ok (.ldc2_w 50, 3) := by decide +kernel
theorem dX6_law_27 : decode cX6_law 27 = .ok (.invokestatic 42, 3) := by decide +kernel
theorem dX6_law_30 : decode cX6_law 30 = .ok (.ifCond .eq 7, 3) := by decide +kernel
theorem dX6_law_33 : decode cX6_law 33 = .ok (.iconst 1, 1) := by decide +kernel
theorem dX6_law_34 : decode cX6_law 34 = .ok (.goto 4, 3) := by decide +kernel
theorem dX6_law_37 : decode cX6_law 37 = .ok (.iconst 0, 1) := by decide +kernel
theorem dX6_law_38 : decode cX6_law 38 = .ok (.istore_n 3, 1) := by decide +kernel
theorem dX6_law_39 : decode cX6_law 39 = .ok (.iload_n 3, 1) := by decide +kernel
theorem dX6_law_40 : decode cX6_law 40 = .ok (.ifCond .eq 20, 3) := by decide +kernel
theorem dX6_law_43 : decode cX6_law 43 = .ok (.aload_n 0, 1) := by decide +kernel
theorem dX6_law_44 : decode cX6_law 44 = .ok (.iload_n 1, 1) := by decide +kernel
theorem dX6_law_45 : decode cX6_law 45 = .ok (.ifCond .ne 7, 3) := by decide +kernel
theorem dX6_law_48 : decode cX6_law 48 = .ok (.iconst 3, 1) := by decide +kernel
theorem dX6_law_49 : decode cX6_law 49 = .ok (.goto 4, 3) := by decide +kernel
theorem dX6_law_52 : decode cX6_law 52 = .ok (.iconst 4, 1) := by decide +kernel
theorem dX6_law_53 : decode cX6_law 53 = .ok (.iload_n 2, 1) := by decide +kernel
theorem dX6_law_54 : decode cX6_law 54 = .ok (.invokevirtual 82, 3) := by decide +kernel
theorem dX6_law_57 : decode cX6_law 57 = .ok (.goto 9, 3) := by decide +kernel
theorem dX6_law_60 : decode cX6_law 60 = .ok (.aload_n 0, 1) := by decide +kernel
theorem dX6_law_61 : decode cX6_law 61 = .ok (.ldc 41, 2) := by decide +kernel
theorem dX6_law_63 : decode cX6_law 63 = .ok (.invokevirtual 59, 3) := by decide +kernel
theorem dX6_law_66 : decode cX6_law 66 = .ok (.ireturn, 1) := by decide +kernel
theorem dX6_comes_0 : decode cX6_comes 0 = .ok (.aload_n 0, 1) := by decide +kernel
theorem dX6_comes_1 : decode cX6_comes 1 = .ok (.getfield 7, 3) := by decide +kernel
theorem dX6_comes_4 : decode cX6_comes 4 = .ok (.iconst 1, 1) := by decide +kernel
theorem dX6_comes_5 : decode cX6_comes 5 = .ok (.iaload, 1) := by decide +kernel
theorem dX6_comes_6 : decode cX6_comes 6 = .ok (.istore_n 3, 1) := by decide +kernel
theorem dX6_comes_7 : decode cX6_comes 7 = .ok (.aload_n 0, 1) := by decide +kernel
theorem dX6_comes_8 : decode cX6_comes 8 = .ok (.getfield 7, 3) := by decide +kernel
theorem dX6_comes_11 : decode cX6_comes 11 = .ok (.iload_n 3, 1) := by decide +kernel
theorem dX6_comes_12 : decode cX6_comes 12 = .ok (.iconst 0, 1) := by decide +kernel
theorem dX6_comes_13 : decode cX6_comes 13 = .ok (.invokestatic 52, 3) := by decide +kernel
theorem dX6_comes_16 : decode cX6_comes 16 = .ok (.iload_n 1, 1) := by decide +kernel
theorem dX6_comes_17 : decode cX6_comes 17 = .ok (.iastore, 1) := by decide +kernel
theorem dX6_comes_18 : decode cX6_comes 18 = .ok (.aload_n 0, 1) := by decide +kernel
theorem dX6_comes_19 : decode cX6_comes 19 = .ok (.getfield 7, 3) := by decide +kernel
theorem dX6_comes_22 : decode cX6_comes 22 = .ok (.iload_n 3, 1) := by decide +kernel
theorem dX6_comes_23 : decode cX6_comes 23 = .ok (.iconst 1, 1) := by decide +kernel
theorem dX6_comes_24 : decode cX6_comes 24 = .ok (.invokestatic 52, 3) := by decide +kernel
theorem dX6_comes_27 : decode cX6_comes 27 = .ok (.iload_n 2, 1) := by decide +kernel
theorem dX6_comes_28 : decode cX6_comes 28 = .ok (.iastore, 1) := by decide +kernel
theorem dX6_comes_29 : decode cX6_comes 29 = .ok (.aload_n 0, 1) := by decide +kernel
theorem dX6_comes_30 : decode cX6_comes 30 = .ok (.getfield 7, 3) := by decide +kernel
theorem dX6_comes_33 : decode cX6_comes 33 = .ok (.iload_n 3, 1) := by decide +kernel
theorem dX6_comes_34 : decode cX6_comes 34 = .ok (.iconst 2, 1) := by decide +kernel
theorem dX6_comes_35 : decode cX6_comes 35 = .ok (.invokestatic 52, 3) := by decide +kernel
theorem dX6_comes_38 : decode cX6_comes 38 = .ok (.iconst 0, 1) := by decide +kernel
theorem dX6_comes_39 : decode cX6_comes 39 = .ok (.iastore, 1) := by decide +kernel
theorem dX6_comes_40 : decode cX6_comes 40 = .ok (.aload_n 0, 1) := by decide +kernel
theorem dX6_comes_41 : decode cX6_comes 41 = .ok (.getfield 7, 3) := by decide +kernel
theorem dX6_comes_44 : decode cX6_comes 44 = .ok (.iconst 1, 1) := by decide +kernel
theorem dX6_comes_45 : decode cX6_comes 45 = .ok (.dup2, 1) := by decide +kernel
theorem dX6_comes_46 : decode cX6_comes 46 = .ok (.iaload, 1) := by decide +kernel
theorem dX6_comes_47 : decode cX6_comes 47 = .ok (.iconst 1, 1) := by decide +kernel
theorem dX6_comes_48 : decode cX6_comes 48 = .ok (.iadd, 1) := by decide +kernel
theorem dX6_comes_49 : decode cX6_comes 49 = .ok (.iastore, 1) := by decide +kernel
theorem dX6_comes_50 : decode cX6_comes 50 = .ok (.iload_n 3, 1) := by decide +kernel
theorem dX6_comes_51 : decode cX6_comes 51 = .ok (.ireturn, 1) := by decide +kernel
theorem dX6_isTrust_0 : decode cX6_isTrust 0 = .ok (.iload_n 1, 1) := by decide +kernel
theorem dX6_isTrust_1 : decode cX6_isTrust 1 = .ok (.iconst (-1), 1) := by decide +kernel
theorem dX6_isTrust_2 : decode cX6_isTrust 2 = .ok (.if_icmp .eq 11, 3) := by decide +kernel
theorem dX6_isTrust_5 : decode cX6_isTrust 5 = .ok (.aload_n 0, 1) := by decide +kernel
theorem dX6_isTrust_6 : decode cX6_isTrust 6 = .ok (.iload_n 1, 1) := by decide +kernel
theorem dX6_isTrust_7 : decode cX6_isTrust 7 = .ok (.invokevirtual 46, 3) := by decide +kernel
theorem dX6_isTrust_10 : decode cX6_isTrust 10 = .ok (.ifCond .eq 7, 3) := by decide +kernel
theorem dX6_isTrust_13 : decode cX6_isTrust 13 = .ok (.iconst 1, 1) := by decide +kernel
theorem dX6_isTrust_14 : decode cX6_isTrust 14 = .ok (.goto 4, 3) := by decide +kernel
theorem dX6_isTrust_17 : decode cX6_isTrust 17 = .ok (.iconst 0, 1) := by decide +kernel
theorem dX6_isTrust_18 : decode cX6_isTrust 18 = .ok (.ireturn, 1) := by decide +kernel
theorem dX6_pilgrim_0 : decode cX6_pilgrim 0 = .ok (.iload_n 1, 1) := by decide +kernel
theorem dX6_pilgrim_1 : decode cX6_pilgrim 1 = .ok (.i2l, 1) := by decide +kernel
theorem dX6_pilgrim_2 : decode cX6_pilgrim 2 = .ok (.lconst 0, 1) := by decide +kernel
theorem dX6_pilgrim_3 : decode cX6_pilgrim 3 = .ok (.ldc2_w 76, 3) := by decide +kernel
theorem dX6_pilgrim_6 : decode cX6_pilgrim 6 = .ok (.invokestatic 42, 3) := by decide +kernel
theorem dX6_pilgrim_9 : decode cX6_pilgrim 9 = .ok (.ifCond .eq 11, 3) := by decide +kernel
theorem dX6_pilgrim_12 : decode cX6_pilgrim 12 = .ok (.aload_n 0, 1) := by decide +kernel
theorem dX6_pilgrim_13 : decode cX6_pilgrim 13 = .ok (.iload_n 2, 1) := by decide +kernel
theorem dX6_pilgrim_14 : decode cX6_pilgrim 14 = .ok (.invokevirtual 107, 3) := by decide +kernel
theorem dX6_pilgrim_17 : decode cX6_pilgrim 17 = .ok (.ifCond .ne 10, 3) := by decide +kernel
theorem dX6_pilgrim_20 : decode cX6_pilgrim 20 = .ok (.aload_n 0, 1) := by decide +kernel
theorem dX6_pilgrim_21 : decode cX6_pilgrim 21 = .ok (.ldc 41, 2) := by decide +kernel
theorem dX6_pilgrim_23 : decode cX6_pilgrim 23 = .ok (.invokevirtual 59, 3) := by decide +kernel
theorem dX6_pilgrim_26 : decode cX6_pilgrim 26 = .ok (.ireturn, 1) := by decide +kernel
theorem dX6_pilgrim_27 : decode cX6_pilgrim 27 = .ok (.aload_n 0, 1) := by decide +kernel
theorem dX6_pilgrim_28 : decode cX6_pilgrim 28 = .ok (.getfield 7, 3) := by decide +kernel
theorem dX6_pilgrim_31 : decode cX6_pilgrim 31 = .ok (.iconst 1, 1) := by decide +kernel
theorem dX6_pilgrim_32 : decode cX6_pilgrim 32 = .ok (.iaload, 1) := by decide +kernel
theorem dX6_pilgrim_33 : decode cX6_pilgrim 33 = .ok (.bipush 8, 2) := by decide +kernel
theorem dX6_pilgrim_35 : decode cX6_pilgrim 35 = .ok (.if_icmp .ne 12, 3) := by decide +kernel
theorem dX6_pilgrim_38 : decode cX6_pilgrim 38 = .ok (.aload_n 0, 1) := by decide +kernel
theorem dX6_pilgrim_39 : decode cX6_pilgrim 39 = .ok (.ldc 63, 2) := by decide +kernel
theorem dX6_pilgrim_41 : decode cX6_pilgrim 41 = .ok (.invokevirtual 59, 3) := by decide +kernel
theorem dX6_pilgrim_44 : decode cX6_pilgrim 44 = .ok (.goto 9, 3) := by decide +kernel
theorem dX6_pilgrim_47 : decode cX6_pilgrim 47 = .ok (.aload_n 0, 1) := by decide +kernel
theorem dX6_pilgrim_48 : decode cX6_pilgrim 48 = .ok (.iload_n 1, 1) := by decide +kernel
theorem dX6_pilgrim_49 : decode cX6_pilgrim 49 = .ok (.iload_n 2, 1) := by decide +kernel
theorem dX6_pilgrim_50 : decode cX6_pilgrim 50 = .ok (.invokevirtual 110, 3) := by decide +kernel
theorem dX6_pilgrim_53 : decode cX6_pilgrim 53 = .ok (.ireturn, 1) := by decide +kernel
theorem dX6_about_0 : decode cX6_about 0 = .ok (.aload_n 0, 1) := by decide +kernel
theorem dX6_about_1 : decode cX6_about 1 = .ok (.iload_n 1, 1) := by decide +kernel
theorem dX6_about_2 : decode cX6_about 2 = .ok (.invokevirtual 113, 3) := by decide +kernel
theorem dX6_about_5 : decode cX6_about 5 = .ok (.ifCond .eq 24, 3) := by decide +kernel
theorem dX6_about_8 : decode cX6_about 8 = .ok (.iload_n 2, 1) := by decide +kernel
theorem dX6_about_9 : decode cX6_about 9 = .ok (.i2l, 1) := by decide +kernel
theorem dX6_about_10 : decode cX6_about 10 = .ok (.lconst 0, 1) := by decide +kernel
theorem dX6_about_11 : decode cX6_about 11 = .ok (.ldc2_w 116, 3) := by decide +kernel
theorem dX6_about_14 : decode cX6_about 14 = .ok (.invokestatic 42, 3) := by decide +kernel
theorem dX6_about_17 : decode cX6_about 17 = .ok (.ifCond .eq 12, 3) := by decide +kernel
theorem dX6_about_20 : decode cX6_about 20 = .ok (.aload_n 0, 1) := by decide +kernel
theorem dX6_about_21 : decode cX6_about 21 = .ok (.iload_n 1, 1) := by decide +kernel
theorem dX6_about_22 : decode cX6_about 22 = .ok (.iload_n 2, 1) := by decide +kernel
theorem dX6_about_23 : decode cX6_about 23 = .ok (.invokevirtual 118, 3) := by decide +kernel
theorem dX6_about_26 : decode cX6_about 26 = .ok (.goto 9, 3) := by decide +kernel
theorem dX6_about_29 : decode cX6_about 29 = .ok (.aload_n 0, 1) := by decide +kernel
theorem dX6_about_30 : decode cX6_about 30 = .ok (.ldc 41, 2) := by decide +kernel
theorem dX6_about_32 : decode cX6_about 32 = .ok (.invokevirtual 59, 3) := by decide +kernel
theorem dX6_about_35 : decode cX6_about 35 = .ok (.ireturn, 1) := by decide +kernel
theorem dX6_mind_0 : decode cX6_mind 0 = .ok (.iload_n 2, 1) := by decide +kernel
theorem dX6_mind_1 : decode cX6_mind 1 = .ok (.ifCond .ne 15, 3) := by decide +kernel
theorem dX6_mind_4 : decode cX6_mind 4 = .ok (.iload_n 3, 1) := by decide +kernel
theorem dX6_mind_5 : decode cX6_mind 5 = .ok (.i2l, 1) := by decide +kernel
theorem dX6_mind_6 : decode cX6_mind 6 = .ok (.lconst 0, 1) := by decide +kernel
theorem dX6_mind_7 : decode cX6_mind 7 = .ok (.ldc2_w 76, 3) := by decide +kernel
theorem dX6_mind_10 : decode cX6_mind 10 = .ok (.invokestatic 42, 3) := by decide +kernel
theorem dX6_mind_13 : decode cX6_mind 13 = .ok (.goto 21, 3) := by decide +kernel
theorem dX6_mind_16 : decode cX6_mind 16 = .ok (.iload_n 2, 1) := by decide +kernel
theorem dX6_mind_17 : decode cX6_mind 17 = .ok (.iconst 1, 1) := by decide +kernel
theorem dX6_mind_18 : decode cX6_mind 18 = .ok (.if_icmp .ne 15, 3) := by decide +kernel
theorem dX6_mind_21 : decode cX6_mind 21 = .ok (.aload_n 0, 1) := by decide +kernel
theorem dX6_mind_22 : decode cX6_mind 22 = .ok (.iload_n 3, 1) := by decide +kernel
theorem dX6_mind_23 : decode cX6_mind 23 = .ok (.invokevirtual 107, 3) := by decide +kernel
theorem dX6_mind_26 : decode cX6_mind 26 = .ok (.ifCond .eq 7, 3) := by decide +kernel
theorem dX6_mind_29 : decode cX6_mind 29 = .ok (.iconst 1, 1) := by decide +kernel
theorem dX6_mind_30 : decode cX6_mind 30 = .ok (.goto 4, 3) := by decide +kernel
theorem dX6_mind_33 : decode cX6_mind 33 = .ok (.iconst 0, 1) := by decide +kernel
theorem dX6_mind_34 : decode cX6_mind 34 = .ok (.istore 4, 2) := by decide +kernel
theorem dX6_mind_36 : decode cX6_mind 36 = .ok (.aload_n 0, 1) := by decide +kernel
theorem dX6_mind_37 : decode cX6_mind 37 = .ok (.iload_n 1, 1) := by decide +kernel
theorem dX6_mind_38 : decode cX6_mind 38 = .ok (.invokevirtual 113, 3) := by decide +kernel
theorem dX6_mind_41 : decode cX6_mind 41 = .ok (.ifCond .eq 21, 3) := by decide +kernel
theorem dX6_mind_44 : decode cX6_mind 44 = .ok (.iload 4, 2) := by decide +kernel
theorem dX6_mind_46 : decode cX6_mind 46 = .ok (.ifCond .eq 16, 3) := by decide +kernel
theorem dX6_mind_49 : decode cX6_mind 49 = .ok (.aload_n 0, 1) := by decide +kernel
theorem dX6_mind_50 : decode cX6_mind 50 = .ok (.iload_n 1, 1) := by decide +kernel
theorem dX6_mind_51 : decode cX6_mind 51 = .ok (.iload_n 2, 1) := by decide +kernel
theorem dX6_mind_52 : decode cX6_mind 52 = .ok (.invokestatic 52, 3) := by decide +kernel
theorem dX6_mind_55 : decode cX6_mind 55 = .ok (.iload_n 3, 1) := by decide +kernel
theorem dX6_mind_56 : decode cX6_mind 56 = .ok (.invokevirtual 82, 3) := by decide +kernel
theorem dX6_mind_59 : decode cX6_mind 59 = .ok (.goto 9, 3) := by decide +kernel
theorem dX6_mind_62 : decode cX6_mind 62 = .ok (.aload_n 0, 1) := by decide +kernel
theorem dX6_mind_63 : decode cX6_mind 63 = .ok (.ldc 41, 2) := by decide +kernel
theorem dX6_mind_65 : decode cX6_mind 65 = .ok (.invokevirtual 59, 3) := by decide +kernel
theorem dX6_mind_68 : decode cX6_mind 68 = .ok (.ireturn, 1) := by decide +kernel
theorem dX6_helps_0 : decode cX6_helps 0 = .ok (.aload_n 0, 1) := by decide +kernel
theorem dX6_helps_1 : decode cX6_helps 1 = .ok (.iload_n 1, 1) := by decide +kernel
theorem dX6_helps_2 : decode cX6_helps 2 = .ok (.iconst 0, 1) := by decide +kernel
theorem dX6_helps_3 : decode cX6_helps 3 = .ok (.invokevirtual 118, 3) := by decide +kernel
theorem dX6_helps_6 : decode cX6_helps 6 = .ok (.iload_n 2, 1) := by decide +kernel
theorem dX6_helps_7 : decode cX6_helps 7 = .ok (.ifCond .eq 13, 3) := by decide +kernel
theorem dX6_helps_10 : decode cX6_helps 10 = .ok (.aload_n 0, 1) := by decide +kernel
theorem dX6_helps_11 : decode cX6_helps 11 = .ok (.getfield 7, 3) := by decide +kernel
theorem dX6_helps_14 : decode cX6_helps 14 = .ok (.iconst 3, 1) := by decide +kernel
theorem dX6_helps_15 : decode cX6_helps 15 = .ok (.iaload, 1) := by decide +kernel
theorem dX6_helps_16 : decode cX6_helps 16 = .ok (.ineg, 1) := by decide +kernel
theorem dX6_helps_17 : decode cX6_helps 17 = .ok (.goto 11, 3) := by decide +kernel
theorem dX6_helps_20 : decode cX6_helps 20 = .ok (.aload_n 0, 1) := by decide +kernel
theorem dX6_helps_21 : decode cX6_helps 21 = .ok (.getfield 7, 3) := by decide +kernel
theorem dX6_helps_24 : decode cX6_helps 24 = .ok (.iconst 3, 1) := by decide +kernel
theorem dX6_helps_25 : decode cX6_helps 25 = .ok (.iaload, 1) := by decide +kernel
theorem dX6_helps_26 : decode cX6_helps 26 = .ok (.iconst 2, 1) := by decide +kernel
theorem dX6_helps_27 : decode cX6_helps 27 = .ok (.idiv, 1) := by decide +kernel
theorem dX6_helps_28 : decode cX6_helps 28 = .ok (.iadd, 1) := by decide +kernel
theorem dX6_helps_29 : decode cX6_helps 29 = .ok (.istore_n 3, 1) := by decide +kernel
theorem dX6_helps_30 : decode cX6_helps 30 = .ok (.aload_n 0, 1) := by decide +kernel
theorem dX6_helps_31 : decode cX6_helps 31 = .ok (.getfield 7, 3) := by decide +kernel
theorem dX6_helps_34 : decode cX6_helps 34 = .ok (.iload_n 1, 1) := by decide +kernel
theorem dX6_helps_35 : decode cX6_helps 35 = .ok (.iconst 0, 1) := by decide +kernel
theorem dX6_helps_36 : decode cX6_helps 36 = .ok (.invokestatic 52, 3) := by decide +kernel
theorem dX6_helps_39 : decode cX6_helps 39 = .ok (.iload_n 3, 1) := by decide +kernel
theorem dX6_helps_40 : decode cX6_helps 40 = .ok (.ifCond .ge 7, 3) := by decide +kernel
theorem dX6_helps_43 : decode cX6_helps 43 = .ok (.iconst 0, 1) := by decide +kernel
theorem dX6_helps_44 : decode cX6_helps 44 = .ok (.goto 15, 3) := by decide +kernel
theorem dX6_helps_47 : decode cX6_helps 47 = .ok (.iload_n 3, 1) := by decide +kernel
theorem dX6_helps_48 : decode cX6_helps 48 = .ok (.bipush 99, 2) := by decide +kernel
theorem dX6_helps_50 : decode cX6_helps 50 = .ok (.if_icmp .le 8, 3) := by decide +kernel
theorem dX6_helps_53 : decode cX6_helps 53 = .ok (.bipush 99, 2) := by decide +kernel
theorem dX6_helps_55 : decode cX6_helps 55 = .ok (.goto 4, 3) := by decide +kernel
theorem dX6_helps_58 : decode cX6_helps 58 = .ok (.iload_n 3, 1) := by decide +kernel
theorem dX6_helps_59 : decode cX6_helps 59 = .ok (.iastore, 1) := by decide +kernel
theorem dX6_helps_60 : decode cX6_helps 60 = .ok (.return_, 1) := by decide +kernel
theorem dX6_drink_0 : decode cX6_drink 0 = .ok (.aload_n 0, 1) := by decide +kernel
theorem dX6_drink_1 : decode cX6_drink 1 = .ok (.iload_n 1, 1) := by decide +kernel
theorem dX6_drink_2 : decode cX6_drink 2 = .ok (.invokevirtual 113, 3) := by decide +kernel
theorem dX6_drink_5 : decode cX6_drink 5 = .ok (.ifCond .eq 13, 3) := by decide +kernel
theorem dX6_drink_8 : decode cX6_drink 8 = .ok (.iload_n 2, 1) := by decide +kernel
theorem dX6_drink_9 : decode cX6_drink 9 = .ok (.i2l, 1) := by decide +kernel
theorem dX6_drink_10 : decode cX6_drink 10 = .ok (.lconst 0, 1) := by decide +kernel
theorem dX6_drink_11 : decode cX6_drink 11 = .ok (.lconst 1, 1) := by decide +kernel
theorem dX6_drink_12 : decode cX6_drink 12 = .ok (.invokestatic 42, 3) := by decide +kernel
theorem dX6_drink_15 : decode cX6_drink 15 = .ok (.ifCond .ne 10, 3) := by decide +kernel
theorem dX6_drink_18 : decode cX6_drink 18 = .ok (.aload_n 0, 1) := by decide +kernel
theorem dX6_drink_19 : decode cX6_drink 19 = .ok (.ldc 41, 2) := by decide +kernel
theorem dX6_drink_21 : decode cX6_drink 21 = .ok (.invokevirtual 59, 3) := by decide +kernel
theorem dX6_drink_24 : decode cX6_drink 24 = .ok (.ireturn, 1) := by decide +kernel
theorem dX6_drink_25 : decode cX6_drink 25 = .ok (.iload_n 2, 1) := by decide +kernel
theorem dX6_drink_26 : decode cX6_drink 26 = .ok (.iconst 1, 1) := by decide +kernel
theorem dX6_drink_27 : decode cX6_drink 27 = .ok (.if_icmp .ne 7, 3) := by decide +kernel
theorem dX6_drink_30 : decode cX6_drink 30 = .ok (.iconst 5, 1) := by decide +kernel
theorem dX6_drink_31 : decode cX6_drink 31 = .ok (.goto 5, 3) := by decide +kernel
theorem dX6_drink_34 : decode cX6_drink 34 = .ok (.bipush 6, 2) := by decide +kernel
theorem dX6_drink_36 : decode cX6_drink 36 = .ok (.istore_n 3, 1) := by decide +kernel
theorem dX6_drink_37 : decode cX6_drink 37 = .ok (.aload_n 0, 1) := by decide +kernel
theorem dX6_drink_38 : decode cX6_drink 38 = .ok (.getfield 7, 3) := by decide +kernel
theorem dX6_drink_41 : decode cX6_drink 41 = .ok (.iload_n 3, 1) := by decide +kernel
theorem dX6_drink_42 : decode cX6_drink 42 = .ok (.iaload, 1) := by decide +kernel
theorem dX6_drink_43 : decode cX6_drink 43 = .ok (.ifCond .ne 10, 3) := by decide +kernel
theorem dX6_drink_46 : decode cX6_drink 46 = .ok (.aload_n 0, 1) := by decide +kernel
theorem dX6_drink_47 : decode cX6_drink 47 = .ok (.ldc 121, 2) := by decide +kernel
theorem dX6_drink_49 : decode cX6_drink 49 = .ok (.invokevirtual 59, 3) := by decide +kernel
theorem dX6_drink_52 : decode cX6_drink 52 = .ok (.ireturn, 1) := by decide +kernel
theorem dX6_drink_53 : decode cX6_drink 53 = .ok (.aload_n 0, 1) := by decide +kernel
theorem dX6_drink_54 : decode cX6_drink 54 = .ok (.getfield 7, 3) := by decide +kernel
theorem dX6_drink_57 : decode cX6_drink 57 = .ok (.iload_n 3, 1) := by decide +kernel
theorem dX6_drink_58 : decode cX6_drink 58 = .ok (.dup2, 1) := by decide +kernel
theorem dX6_drink_59 : decode cX6_drink 59 = .ok (.iaload, 1) := by decide +kernel
theorem dX6_drink_60 : decode cX6_drink 60 = .ok (.iconst 1, 1) := by decide +kernel
theorem dX6_drink_61 : decode cX6_drink 61 = .ok (.isub, 1) := by decide +kernel
theorem dX6_drink_62 : decode cX6_drink 62 = .ok (.iastore, 1) := by decide +kernel
theorem dX6_drink_63 : decode cX6_drink 63 = .ok (.aload_n 0, 1) := by decide +kernel
theorem dX6_drink_64 : decode cX6_drink 64 = .ok (.iload_n 1, 1) := by decide +kernel
theorem dX6_drink_65 : decode cX6_drink 65 = .ok (.iload_n 2, 1) := by decide +kernel
theorem dX6_drink_66 : decode cX6_drink 66 = .ok (.iconst 1, 1) := by decide +kernel
theorem dX6_drink_67 : decode cX6_drink 67 = .ok (.if_icmp .ne 7, 3) := by decide +kernel
theorem dX6_drink_70 : decode cX6_drink 70 = .ok (.iconst 1, 1) := by decide +kernel
theorem dX6_drink_71 : decode cX6_drink 71 = .ok (.goto 4, 3) := by decide +kernel
theorem dX6_drink_74 : decode cX6_drink 74 = .ok (.iconst 0, 1) := by decide +kernel
theorem dX6_drink_75 : decode cX6_drink 75 = .ok (.invokevirtual 122, 3) := by decide +kernel
theorem dX6_drink_78 : decode cX6_drink 78 = .ok (.aload_n 0, 1) := by decide +kernel
theorem dX6_drink_79 : decode cX6_drink 79 = .ok (.iload_n 1, 1) := by decide +kernel
theorem dX6_drink_80 : decode cX6_drink 80 = .ok (.iconst 0, 1) := by decide +kernel
theorem dX6_drink_81 : decode cX6_drink 81 = .ok (.invokevirtual 118, 3) := by decide +kernel
theorem dX6_drink_84 : decode cX6_drink 84 = .ok (.ireturn, 1) := by decide +kernel
theorem dX6_bathes_0 : decode cX6_bathes 0 = .ok (.aload_n 0, 1) := by decide +kernel
theorem dX6_bathes_1 : decode cX6_bathes 1 = .ok (.iload_n 1, 1) := by decide +kernel
theorem dX6_bathes_2 : decode cX6_bathes 2 = .ok (.aload_n 0, 1) := by decide +kernel
theorem dX6_bathes_3 : decode cX6_bathes 3 = .ok (.aload_n 0, 1) := by decide +kernel
theorem dX6_bathes_4 : decode cX6_bathes 4 = .ok (.getfield 7, 3) := by decide +kernel
theorem dX6_bathes_7 : decode cX6_bathes 7 = .ok (.iconst 4, 1) := by decide +kernel
theorem dX6_bathes_8 : decode cX6_bathes 8 = .ok (.iaload, 1) := by decide +kernel
theorem dX6_bathes_9 : decode cX6_bathes 9 = .ok (.aload_n 0, 1) := by decide +kernel
theorem dX6_bathes_10 : decode cX6_bathes 10 = .ok (.getfield 7, 3) := by decide +kernel
theorem dX6_bathes_13 : decode cX6_bathes 13 = .ok (.iconst 2, 1) := by decide +kernel
theorem dX6_bathes_14 : decode cX6_bathes 14 = .ok (.iaload, 1) := by decide +kernel
theorem dX6_bathes_15 : decode cX6_bathes 15 = .ok (.invokevirtual 102, 3) := by decide +kernel
theorem dX6_bathes_18 : decode cX6_bathes 18 = .ok (.invokevirtual 122, 3) := by decide +kernel
theorem dX6_bathes_21 : decode cX6_bathes 21 = .ok (.aload_n 0, 1) := by decide +kernel
theorem dX6_bathes_22 : decode cX6_bathes 22 = .ok (.getfield 7, 3) := by decide +kernel
theorem dX6_bathes_25 : decode cX6_bathes 25 = .ok (.iload_n 1, 1) := by decide +kernel
theorem dX6_bathes_26 : decode cX6_bathes 26 = .ok (.iconst 2, 1) := by decide +kernel
theorem dX6_bathes_27 : decode cX6_bathes 27 = .ok (.invokestatic 52, 3) := by decide +kernel
theorem dX6_bathes_30 : decode cX6_bathes 30 = .ok (.dup2, 1) := by decide +kernel
theorem dX6_bathes_31 : decode cX6_bathes 31 = .ok (.iaload, 1) := by decide +kernel
theorem dX6_bathes_32 : decode cX6_bathes 32 = .ok (.aload_n 0, 1) := by decide +kernel
theorem dX6_bathes_33 : decode cX6_bathes 33 = .ok (.iload_n 1, 1) := by decide +kernel
theorem dX6_bathes_34 : decode cX6_bathes 34 = .ok (.iconst 2, 1) := by decide +kernel
theorem dX6_bathes_35 : decode cX6_bathes 35 = .ok (.invokevirtual 118, 3) := by decide +kernel
theorem dX6_bathes_38 : decode cX6_bathes 38 = .ok (.sipush 9999, 3) := by decide +kernel
theorem dX6_bathes_41 : decode cX6_bathes 41 = .ok (.if_icmp .ge 7, 3) := by decide +kernel
theorem dX6_bathes_44 : decode cX6_bathes 44 = .ok (.iconst 1, 1) := by decide +kernel
theorem dX6_bathes_45 : decode cX6_bathes 45 = .ok (.goto 4, 3) := by decide +kernel
theorem dX6_bathes_48 : decode cX6_bathes 48 = .ok (.iconst 0, 1) := by decide +kernel
theorem dX6_bathes_49 : decode cX6_bathes 49 = .ok (.iadd, 1) := by decide +kernel
theorem dX6_bathes_50 : decode cX6_bathes 50 = .ok (.iastore, 1) := by decide +kernel
theorem dX6_bathes_51 : decode cX6_bathes 51 = .ok (.return_, 1) := by decide +kernel
theorem dX6_bathe_0 : decode cX6_bathe 0 = .ok (.aload_n 0, 1) := by decide +kernel
theorem dX6_bathe_1 : decode cX6_bathe 1 = .ok (.iload_n 1, 1) := by decide +kernel
theorem dX6_bathe_2 : decode cX6_bathe 2 = .ok (.invokevirtual 113, 3) := by decide +kernel
theorem dX6_bathe_5 : decode cX6_bathe 5 = .ok (.ifCond .ne 10, 3) := by decide +kernel
theorem dX6_bathe_8 : decode cX6_bathe 8 = .ok (.aload_n 0, 1) := by decide +kernel
theorem dX6_bathe_9 : decode cX6_bathe 9 = .ok (.ldc 41, 2) := by decide +kernel
theorem dX6_bathe_11 : decode cX6_bathe 11 = .ok (.invokevirtual 59, 3) := by decide +kernel
theorem dX6_bathe_14 : decode cX6_bathe 14 = .ok (.ireturn, 1) := by decide +kernel
theorem dX6_bathe_15 : decode cX6_bathe 15 = .ok (.aload_n 0, 1) := by decide +kernel
theorem dX6_bathe_16 : decode cX6_bathe 16 = .ok (.iload_n 1, 1) := by decide +kernel
theorem dX6_bathe_17 : decode cX6_bathe 17 = .ok (.invokevirtual 126, 3) := by decide +kernel
theorem dX6_bathe_20 : decode cX6_bathe 20 = .ok (.aload_n 0, 1) := by decide +kernel
theorem dX6_bathe_21 : decode cX6_bathe 21 = .ok (.iload_n 1, 1) := by decide +kernel
theorem dX6_bathe_22 : decode cX6_bathe 22 = .ok (.iconst 0, 1) := by decide +kernel
theorem dX6_bathe_23 : decode cX6_bathe 23 = .ok (.invokevirtual 118, 3) := by decide +kernel
theorem dX6_bathe_26 : decode cX6_bathe 26 = .ok (.ireturn, 1) := by decide +kernel
theorem dX6_day_0 : decode cX6_day 0 = .ok (.iconst 0, 1) := by decide +kernel
theorem dX6_day_1 : decode cX6_day 1 = .ok (.istore_n 1, 1) := by decide +kernel
theorem dX6_day_2 : decode cX6_day 2 = .ok (.iload_n 1, 1) := by decide +kernel
theorem dX6_day_3 : decode cX6_day 3 = .ok (.aload_n 0, 1) := by decide +kernel
theorem dX6_day_4 : decode cX6_day 4 = .ok (.getfield 7, 3) := by decide +kernel
theorem dX6_day_7 : decode cX6_day 7 = .ok (.iconst 1, 1) := by decide +kernel
theorem dX6_day_8 : decode cX6_day 8 = .ok (.iaload, 1) := by decide +kernel
theorem dX6_day_9 : decode cX6_day 9 = .ok (.if_icmp .ge 48, 3) := by decide +kernel
theorem dX6_day_12 : decode cX6_day 12 = .ok (.aload_n 0, 1) := by decide +kernel
theorem dX6_day_13 : decode cX6_day 13 = .ok (.iload_n 1, 1) := by decide +kernel
theorem dX6_day_14 : decode cX6_day 14 = .ok (.iconst 1, 1) := by decide +kernel
theorem dX6_day_15 : decode cX6_day 15 = .ok (.invokevirtual 118, 3) := by decide +kernel
theorem dX6_day_18 : decode cX6_day 18 = .ok (.istore_n 2, 1) := by decide +kernel
theorem dX6_day_19 : decode cX6_day 19 = .ok (.aload_n 0, 1) := by decide +kernel
theorem dX6_day_20 : decode cX6_day 20 = .ok (.iload_n 1, 1) := by decide +kernel
theorem dX6_day_21 : decode cX6_day 21 = .ok (.iconst 0, 1) := by decide +kernel
theorem dX6_day_22 : decode cX6_day 22 = .ok (.invokevirtual 118, 3) := by decide +kernel
theorem dX6_day_25 : decode cX6_day 25 = .ok (.ifCond .le 26, 3) := by decide +kernel
theorem dX6_day_28 : decode cX6_day 28 = .ok (.iload_n 2, 1) := by decide +kernel
theorem dX6_day_29 : decode cX6_day 29 = .ok (.ifCond .lt 17, 3) := by decide +kernel
theorem dX6_day_32 : decode cX6_day 32 = .ok (.aload_n 0, 1) := by decide +kernel
theorem dX6_day_33 : decode cX6_day 33 = .ok (.iload_n 2, 1) := by decide +kernel
theorem dX6_day_34 : decode cX6_day 34 = .ok (.aload_n 0, 1) := by decide +kernel
theorem dX6_day_35 : decode cX6_day 35 = .ok (.getfield 7, 3) := by decide +kernel
theorem dX6_day_38 : decode cX6_day 38 = .ok (.iconst 2, 1) := by decide +kernel
theorem dX6_day_39 : decode cX6_day 39 = .ok (.iaload, 1) := by decide +kernel
theorem dX6_day_40 : decode cX6_day 40 = .ok (.invokevirtual 102, 3) := by decide +kernel
theorem dX6_day_43 : decode cX6_day 43 = .ok (.ifCond .eq 8, 3) := by decide +kernel
theorem dX6_day_46 : decode cX6_day 46 = .ok (.aload_n 0, 1) := by decide +kernel
theorem dX6_day_47 : decode cX6_day 47 = .ok (.iload_n 1, 1) := by decide +kernel
theorem dX6_day_48 : decode cX6_day 48 = .ok (.invokevirtual 126, 3) := by decide +kernel
theorem dX6_day_51 : decode cX6_day 51 = .ok (.iinc 1 1, 3) := by decide +kernel
theorem dX6_day_54 : decode cX6_day 54 = .ok (.goto (-52), 3) := by decide +kernel
theorem dX6_day_57 : decode cX6_day 57 = .ok (.aload_n 0, 1) := by decide +kernel
theorem dX6_day_58 : decode cX6_day 58 = .ok (.getfield 7, 3) := by decide +kernel
theorem dX6_day_61 : decode cX6_day 61 = .ok (.iconst 2, 1) := by decide +kernel
theorem dX6_day_62 : decode cX6_day 62 = .ok (.iaload, 1) := by decide +kernel
theorem dX6_day_63 : decode cX6_day 63 = .ok (.bipush 7, 2) := by decide +kernel
theorem dX6_day_65 : decode cX6_day 65 = .ok (.irem, 1) := by decide +kernel
theorem dX6_day_66 : decode cX6_day 66 = .ok (.iconst 2, 1) := by decide +kernel
theorem dX6_day_67 : decode cX6_day 67 = .ok (.if_icmp .ne 54, 3) := by decide +kernel
theorem dX6_day_70 : decode cX6_day 70 = .ok (.aload_n 0, 1) := by decide +kernel
theorem dX6_day_71 : decode cX6_day 71 = .ok (.aload_n 0, 1) := by decide +kernel
theorem dX6_day_72 : decode cX6_day 72 = .ok (.getfield 7, 3) := by decide +kernel
theorem dX6_day_75 : decode cX6_day 75 = .ok (.iconst 4, 1) := by decide +kernel
theorem dX6_day_76 : decode cX6_day 76 = .ok (.iaload, 1) := by decide +kernel
theorem dX6_day_77 : decode cX6_day 77 = .ok (.aload_n 0, 1) := by decide +kernel
theorem dX6_day_78 : decode cX6_day 78 = .ok (.getfield 7, 3) := by decide +kernel
theorem dX6_day_81 : decode cX6_day 81 = .ok (.iconst 2, 1) := by decide +kernel
theorem dX6_day_82 : decode cX6_day 82 = .ok (.iaload, 1) := by decide +kernel
theorem dX6_day_83 : decode cX6_day 83 = .ok (.invokevirtual 102, 3) := by decide +kernel
theorem dX6_day_86 : decode cX6_day 86 = .ok (.ifCond .eq 7, 3) := by decide +kernel
theorem dX6_day_89 : decode cX6_day 89 = .ok (.iconst 5, 1) := by decide +kernel
theorem dX6_day_90 : decode cX6_day 90 = .ok (.goto 5, 3) := by decide +kernel
theorem dX6_day_93 : decode cX6_day 93 = .ok (.bipush 6, 2) := by decide +kernel
theorem dX6_day_95 : decode cX6_day 95 = .ok (.istore_n 1, 1) := by decide +kernel
theorem dX6_day_96 : decode cX6_day 96 = .ok (.aload_n 0, 1) := by decide +kernel
theorem dX6_day_97 : decode cX6_day 97 = .ok (.getfield 7, 3) := by decide +kernel
theorem dX6_day_100 : decode cX6_day 100 = .ok (.iload_n 1, 1) := by decide +kernel
theorem dX6_day_101 : decode cX6_day 101 = .ok (.dup2, 1) := by decide +kernel
theorem dX6_day_102 : decode cX6_day 102 = .ok (.iaload, 1) := by decide +kernel
theorem dX6_day_103 : decode cX6_day 103 = .ok (.aload_n 0, 1) := by decide +kernel
theorem dX6_day_104 : decode cX6_day 104 = .ok (.getfield 7, 3) := by decide +kernel
theorem dX6_day_107 : decode cX6_day 107 = .ok (.iload_n 1, 1) := by decide +kernel
theorem dX6_day_108 : decode cX6_day 108 = .ok (.iaload, 1) := by decide +kernel
theorem dX6_day_109 : decode cX6_day 109 = .ok (.bipush 99, 2) := by decide +kernel
theorem dX6_day_111 : decode cX6_day 111 = .ok (.if_icmp .ge 7, 3) := by decide +kernel
theorem dX6_day_114 : decode cX6_day 114 = .ok (.iconst 1, 1) := by decide +kernel
theorem dX6_day_115 : decode cX6_day 115 = .ok (.goto 4, 3) := by decide +kernel
theorem dX6_day_118 : decode cX6_day 118 = .ok (.iconst 0, 1) := by decide +kernel
theorem dX6_day_119 : decode cX6_day 119 = .ok (.iadd, 1) := by decide +kernel
theorem dX6_day_120 : decode cX6_day 120 = .ok (.iastore, 1) := by decide +kernel
theorem dX6_day_121 : decode cX6_day 121 = .ok (.aload_n 0, 1) := by decide +kernel
theorem dX6_day_122 : decode cX6_day 122 = .ok (.getfield 7, 3) := by decide +kernel
theorem dX6_day_125 : decode cX6_day 125 = .ok (.iconst 2, 1) := by decide +kernel
theorem dX6_day_126 : decode cX6_day 126 = .ok (.dup2, 1) := by decide +kernel
theorem dX6_day_127 : decode cX6_day 127 = .ok (.iaload, 1) := by decide +kernel
theorem dX6_day_128 : decode cX6_day 128 = .ok (.iconst 1, 1) := by decide +kernel
theorem dX6_day_129 : decode cX6_day 129 = .ok (.iadd, 1) := by decide +kernel
theorem dX6_day_130 : decode cX6_day 130 = .ok (.iastore, 1) := by decide +kernel
theorem dX6_day_131 : decode cX6_day 131 = .ok (.return_, 1) := by decide +kernel
theorem dX6_goesOn_0 : decode cX6_goesOn 0 = .ok (.iconst 0, 1) := by decide +kernel
theorem dX6_goesOn_1 : decode cX6_goesOn 1 = .ok (.istore_n 2, 1) := by decide +kernel
theorem dX6_goesOn_2 : decode cX6_goesOn 2 = .ok (.iload_n 2, 1) := by decide +kernel
theorem dX6_goesOn_3 : decode cX6_goesOn 3 = .ok (.iload_n 1, 1) := by decide +kernel
theorem dX6_goesOn_4 : decode cX6_goesOn 4 = .ok (.if_icmp .ge 13, 3) := by decide +kernel
theorem dX6_goesOn_7 : decode cX6_goesOn 7 = .ok (.aload_n 0, 1) := by decide +kernel
theorem dX6_goesOn_8 : decode cX6_goesOn 8 = .ok (.invokevirtual 130, 3) := by decide +kernel
theorem dX6_goesOn_11 : decode cX6_goesOn 11 = .ok (.iinc 2 1, 3) := by decide +kernel
theorem dX6_goesOn_14 : decode cX6_goesOn 14 = .ok (.goto (-12), 3) := by decide +kernel
theorem dX6_goesOn_17 : decode cX6_goesOn 17 = .ok (.return_, 1) := by decide +kernel
theorem dX6_wellOnes_0 : decode cX6_wellOnes 0 = .ok (.iconst 0, 1) := by decide +kernel
theorem dX6_wellOnes_1 : decode cX6_wellOnes 1 = .ok (.istore_n 1, 1) := by decide +kernel
theorem dX6_wellOnes_2 : decode cX6_wellOnes 2 = .ok (.iconst 0, 1) := by decide +kernel
theorem dX6_wellOnes_3 : decode cX6_wellOnes 3 = .ok (.istore_n 2, 1) := by decide +kernel
theorem dX6_wellOnes_4 : decode cX6_wellOnes 4 = .ok (.iload_n 2, 1) := by decide +kernel
theorem dX6_wellOnes_5 : decode cX6_wellOnes 5 = .ok (.aload_n 0, 1) := by decide +kernel
theorem dX6_wellOnes_6 : decode cX6_wellOnes 6 = .ok (.getfield 7, 3) := by decide +kernel
theorem dX6_wellOnes_9 : decode cX6_wellOnes 9 = .ok (.iconst 1, 1) := by decide +kernel
theorem dX6_wellOnes_10 : decode cX6_wellOnes 10 = .ok (.iaload, 1) := by decide +kernel
theorem dX6_wellOnes_11 : decode cX6_wellOnes 11 = .ok (.if_icmp .ge 28, 3) := by decide +kernel
theorem dX6_wellOnes_14 : decode cX6_wellOnes 14 = .ok (.iload_n 1, 1) := by decide +kernel
theorem dX6_wellOnes_15 : decode cX6_wellOnes 15 = .ok (.aload_n 0, 1) := by decide +kernel
theorem dX6_wellOnes_16 : decode cX6_wellOnes 16 = .ok (.iload_n 2, 1) := by decide +kernel
theorem dX6_wellOnes_17 : decode cX6_wellOnes 17 = .ok (.iconst 0, 1) := by decide +kernel
theorem dX6_wellOnes_18 : decode cX6_wellOnes 18 = .ok (.invokevirtual 118, 3) := by decide +kernel
theorem dX6_wellOnes_21 : decode cX6_wellOnes 21 = .ok (.ifCond .ne 9, 3) := by decide +kernel
theorem dX6_wellOnes_24 : decode cX6_wellOnes 24 = .ok (.iconst 1, 1) := by decide +kernel
theorem dX6_wellOnes_25 : decode cX6_wellOnes 25 = .ok (.iload_n 2, 1) := by decide +kernel
theorem dX6_wellOnes_26 : decode cX6_wellOnes 26 = .ok (.ishl, 1) := by decide +kernel
theorem dX6_wellOnes_27 : decode cX6_wellOnes 27 = .ok (.goto 4, 3) := by decide +kernel
theorem dX6_wellOnes_30 : decode cX6_wellOnes 30 = .ok (.iconst 0, 1) := by decide +kernel
theorem dX6_wellOnes_31 : decode cX6_wellOnes 31 = .ok (.ior, 1) := by decide +kernel
theorem dX6_wellOnes_32 : decode cX6_wellOnes 32 = .ok (.istore_n 1, 1) := by decide +kernel
theorem dX6_wellOnes_33 : decode cX6_wellOnes 33 = .ok (.iinc 2 1, 3) := by decide +kernel
theorem dX6_wellOnes_36 : decode cX6_wellOnes 36 = .ok (.goto (-32), 3) := by decide +kernel
theorem dX6_wellOnes_39 : decode cX6_wellOnes 39 = .ok (.iload_n 1, 1) := by decide +kernel
theorem dX6_wellOnes_40 : decode cX6_wellOnes 40 = .ok (.ireturn, 1) := by decide +kernel
theorem dX6_ones_0 : decode cX6_ones 0 = .ok (.iconst 0, 1) := by decide +kernel
theorem dX6_ones_1 : decode cX6_ones 1 = .ok (.istore_n 1, 1) := by decide +kernel
theorem dX6_ones_2 : decode cX6_ones 2 = .ok (.iload_n 0, 1) := by decide +kernel
theorem dX6_ones_3 : decode cX6_ones 3 = .ok (.istore_n 2, 1) := by decide +kernel
theorem dX6_ones_4 : decode cX6_ones 4 = .ok (.iload_n 2, 1) := by decide +kernel
theorem dX6_ones_5 : decode cX6_ones 5 = .ok (.ifCond .eq 15, 3) := by decide +kernel
theorem dX6_ones_8 : decode cX6_ones 8 = .ok (.iinc 1 1, 3) := by decide +kernel
theorem dX6_ones_11 : decode cX6_ones 11 = .ok (.iload_n 2, 1) := by decide +kernel
theorem dX6_ones_12 : decode cX6_ones 12 = .ok (.iload_n 2, 1) := by decide +kernel
theorem dX6_ones_13 : decode cX6_ones 13 = .ok (.iconst 1, 1) := by decide +kernel
theorem dX6_ones_14 : decode cX6_ones 14 = .ok (.isub, 1) := by decide +kernel
theorem dX6_ones_15 : decode cX6_ones 15 = .ok (.iand, 1) := by decide +kernel
theorem dX6_ones_16 : decode cX6_ones 16 = .ok (.istore_n 2, 1) := by decide +kernel
theorem dX6_ones_17 : decode cX6_ones 17 = .ok (.goto (-13), 3) := by decide +kernel
theorem dX6_ones_20 : decode cX6_ones 20 = .ok (.iload_n 1, 1) := by decide +kernel
theorem dX6_ones_21 : decode cX6_ones 21 = .ok (.ireturn, 1) := by decide +kernel
theorem dX6_days_0 : decode cX6_days 0 = .ok (.iload_n 1, 1) := by decide +kernel
theorem dX6_days_1 : decode cX6_days 1 = .ok (.i2l, 1) := by decide +kernel
theorem dX6_days_2 : decode cX6_days 2 = .ok (.lconst 1, 1) := by decide +kernel
theorem dX6_days_3 : decode cX6_days 3 = .ok (.ldc2_w 133, 3) := by decide +kernel
theorem dX6_days_6 : decode cX6_days 6 = .ok (.invokestatic 42, 3) := by decide +kernel
theorem dX6_days_9 : decode cX6_days 9 = .ok (.ifCond .ne 10, 3) := by decide +kernel
theorem dX6_days_12 : decode cX6_days 12 = .ok (.aload_n 0, 1) := by decide +kernel
theorem dX6_days_13 : decode cX6_days 13 = .ok (.ldc 41, 2) := by decide +kernel
theorem dX6_days_15 : decode cX6_days 15 = .ok (.invokevirtual 59, 3) := by decide +kernel
theorem dX6_days_18 : decode cX6_days 18 = .ok (.ireturn, 1) := by decide +kernel
theorem dX6_days_19 : decode cX6_days 19 = .ok (.aload_n 0, 1) := by decide +kernel
theorem dX6_days_20 : decode cX6_days 20 = .ok (.getfield 7, 3) := by decide +kernel
theorem dX6_days_23 : decode cX6_days 23 = .ok (.iconst 2, 1) := by decide +kernel
theorem dX6_days_24 : decode cX6_days 24 = .ok (.iaload, 1) := by decide +kernel
theorem dX6_days_25 : decode cX6_days 25 = .ok (.iload_n 1, 1) := by decide +kernel
theorem dX6_days_26 : decode cX6_days 26 = .ok (.iadd, 1) := by decide +kernel
theorem dX6_days_27 : decode cX6_days 27 = .ok (.ldc 135, 2) := by decide +kernel
theorem dX6_days_29 : decode cX6_days 29 = .ok (.if_icmp .le 10, 3) := by decide +kernel
theorem dX6_days_32 : decode cX6_days 32 = .ok (.aload_n 0, 1) := by decide +kernel
theorem dX6_days_33 : decode cX6_days 33 = .ok (.ldc 121, 2) := by decide +kernel
theorem dX6_days_35 : decode cX6_days 35 = .ok (.invokevirtual 59, 3) := by decide +kernel
theorem dX6_days_38 : decode cX6_days 38 = .ok (.ireturn, 1) := by decide +kernel
theorem dX6_days_39 : decode cX6_days 39 = .ok (.aload_n 0, 1) := by decide +kernel
theorem dX6_days_40 : decode cX6_days 40 = .ok (.iload_n 1, 1) := by decide +kernel
theorem dX6_days_41 : decode cX6_days 41 = .ok (.invokevirtual 136, 3) := by decide +kernel
theorem dX6_days_44 : decode cX6_days 44 = .ok (.aload_n 0, 1) := by decide +kernel
theorem dX6_days_45 : decode cX6_days 45 = .ok (.invokevirtual 139, 3) := by decide +kernel
theorem dX6_days_48 : decode cX6_days 48 = .ok (.invokestatic 143, 3) := by decide +kernel
theorem dX6_days_51 : decode cX6_days 51 = .ok (.ireturn, 1) := by decide +kernel
theorem dX6_together_0 : decode cX6_together 0 = .ok (.iconst 0, 1) := by decide +kernel
theorem dX6_together_1 : decode cX6_together 1 = .ok (.istore_n 2, 1) := by decide +kernel
theorem dX6_together_2 : decode cX6_together 2 = .ok (.iconst 0, 1) := by decide +kernel
theorem dX6_together_3 : decode cX6_together 3 = .ok (.istore_n 3, 1) := by decide +kernel
theorem dX6_together_4 : decode cX6_together 4 = .ok (.iload_n 3, 1) := by decide +kernel
theorem dX6_together_5 : decode cX6_together 5 = .ok (.aload_n 0, 1) := by decide +kernel
theorem dX6_together_6 : decode cX6_together 6 = .ok (.getfield 7, 3) := by decide +kernel
theorem dX6_together_9 : decode cX6_together 9 = .ok (.iconst 1, 1) := by decide +kernel
theorem dX6_together_10 : decode cX6_together 10 = .ok (.iaload, 1) := by decide +kernel
theorem dX6_together_11 : decode cX6_together 11 = .ok (.if_icmp .ge 18, 3) := by decide +kernel
theorem dX6_together_14 : decode cX6_together 14 = .ok (.iload_n 2, 1) := by decide +kernel
theorem dX6_together_15 : decode cX6_together 15 = .ok (.aload_n 0, 1) := by decide +kernel
theorem dX6_together_16 : decode cX6_together 16 = .ok (.iload_n 3, 1) := by decide +kernel
theorem dX6_together_17 : decode cX6_together 17 = .ok (.iload_n 1, 1) := by decide +kernel
theorem dX6_together_18 : decode cX6_together 18 = .ok (.invokevirtual 118, 3) := by decide +kernel
theorem dX6_together_21 : decode cX6_together 21 = .ok (.iadd, 1) := by decide +kernel
theorem dX6_together_22 : decode cX6_together 22 = .ok (.istore_n 2, 1) := by decide +kernel
theorem dX6_together_23 : decode cX6_together 23 = .ok (.iinc 3 1, 3) := by decide +kernel
theorem dX6_together_26 : decode cX6_together 26 = .ok (.goto (-22), 3) := by decide +kernel
theorem dX6_together_29 : decode cX6_together 29 = .ok (.iload_n 2, 1) := by decide +kernel
theorem dX6_together_30 : decode cX6_together 30 = .ok (.ireturn, 1) := by decide +kernel
theorem dX6_now_0 : decode cX6_now 0 = .ok (.iload_n 1, 1) := by decide +kernel
theorem dX6_now_1 : decode cX6_now 1 = .ok (.tableswitch 63 0 6 #[43, 43, 43, 43, 43, 52, 58], 43) := by decide +kernel
theorem dX6_now_44 : decode cX6_now 44 = .ok (.aload_n 0, 1) := by decide +kernel
theorem dX6_now_45 : decode cX6_now 45 = .ok (.getfield 7, 3) := by decide +kernel
theorem dX6_now_48 : decode cX6_now 48 = .ok (.iconst 2, 1) := by decide +kernel
theorem dX6_now_49 : decode cX6_now 49 = .ok (.iload_n 1, 1) := by decide +kernel
theorem dX6_now_50 : decode cX6_now 50 = .ok (.iadd, 1) := by decide +kernel
theorem dX6_now_51 : decode cX6_now 51 = .ok (.iaload, 1) := by decide +kernel
theorem dX6_now_52 : decode cX6_now 52 = .ok (.ireturn, 1) := by decide +kernel
theorem dX6_now_53 : decode cX6_now 53 = .ok (.aload_n 0, 1) := by decide +kernel
theorem dX6_now_54 : decode cX6_now 54 = .ok (.iconst 0, 1) := by decide +kernel
theorem dX6_now_55 : decode cX6_now 55 = .ok (.invokevirtual 146, 3) := by decide +kernel
theorem dX6_now_58 : decode cX6_now 58 = .ok (.ireturn, 1) := by decide +kernel
theorem dX6_now_59 : decode cX6_now 59 = .ok (.aload_n 0, 1) := by decide +kernel
theorem dX6_now_60 : decode cX6_now 60 = .ok (.invokevirtual 139, 3) := by decide +kernel
theorem dX6_now_63 : decode cX6_now 63 = .ok (.ireturn, 1) := by decide +kernel
theorem dX6_now_64 : decode cX6_now 64 = .ok (.aload_n 0, 1) := by decide +kernel
theorem dX6_now_65 : decode cX6_now 65 = .ok (.ldc 41, 2) := by decide +kernel
theorem dX6_now_67 : decode cX6_now 67 = .ok (.invokevirtual 59, 3) := by decide +kernel
theorem dX6_now_70 : decode cX6_now 70 = .ok (.ireturn, 1) := by decide +kernel
theorem dX6_on_0 : decode cX6_on 0 = .ok (.aload_n 0, 1) := by decide +kernel
theorem dX6_on_1 : decode cX6_on 1 = .ok (.iload_n 1, 1) := by decide +kernel
theorem dX6_on_2 : decode cX6_on 2 = .ok (.invokevirtual 113, 3) := by decide +kernel
theorem dX6_on_5 : decode cX6_on 5 = .ok (.ifCond .eq 25, 3) := by decide +kernel
theorem dX6_on_8 : decode cX6_on 8 = .ok (.iload_n 2, 1) := by decide +kernel
theorem dX6_on_9 : decode cX6_on 9 = .ok (.i2l, 1) := by decide +kernel
theorem dX6_on_10 : decode cX6_on 10 = .ok (.lconst 0, 1) := by decide +kernel
theorem dX6_on_11 : decode cX6_on 11 = .ok (.ldc2_w 133, 3) := by decide +kernel
theorem dX6_on_14 : decode cX6_on 14 = .ok (.invokestatic 42, 3) := by decide +kernel
theorem dX6_on_17 : decode cX6_on 17 = .ok (.ifCond .eq 13, 3) := by decide +kernel
theorem dX6_on_20 : decode cX6_on 20 = .ok (.iload_n 3, 1) := by decide +kernel
theorem dX6_on_21 : decode cX6_on 21 = .ok (.i2l, 1) := by decide +kernel
theorem dX6_on_22 : decode cX6_on 22 = .ok (.lconst 0, 1) := by decide +kernel
theorem dX6_on_23 : decode cX6_on 23 = .ok (.lconst 1, 1) := by decide +kernel
theorem dX6_on_24 : decode cX6_on 24 = .ok (.invokestatic 42, 3) := by decide +kernel
theorem dX6_on_27 : decode cX6_on 27 = .ok (.ifCond .ne 10, 3) := by decide +kernel
theorem dX6_on_30 : decode cX6_on 30 = .ok (.aload_n 0, 1) := by decide +kernel
theorem dX6_on_31 : decode cX6_on 31 = .ok (.ldc 41, 2) := by decide +kernel
theorem dX6_on_33 : decode cX6_on 33 = .ok (.invokevirtual 59, 3) := by decide +kernel
theorem dX6_on_36 : decode cX6_on 36 = .ok (.ireturn, 1) := by decide +kernel
theorem dX6_on_37 : decode cX6_on 37 = .ok (.aload_n 0, 1) := by decide +kernel
theorem dX6_on_38 : decode cX6_on 38 = .ok (.invokevirtual 149, 3) := by decide +kernel
theorem dX6_on_41 : decode cX6_on 41 = .ok (.aload_n 0, 1) := by decide +kernel
theorem dX6_on_42 : decode cX6_on 42 = .ok (.iload_n 2, 1) := by decide +kernel
theorem dX6_on_43 : decode cX6_on 43 = .ok (.invokevirtual 136, 3) := by decide +kernel
theorem dX6_on_46 : decode cX6_on 46 = .ok (.aload_n 0, 1) := by decide +kernel
theorem dX6_on_47 : decode cX6_on 47 = .ok (.aload_n 0, 1) := by decide +kernel
theorem dX6_on_48 : decode cX6_on 48 = .ok (.iload_n 1, 1) := by decide +kernel
theorem dX6_on_49 : decode cX6_on 49 = .ok (.iload_n 3, 1) := by decide +kernel
theorem dX6_on_50 : decode cX6_on 50 = .ok (.ifCond .ne 7, 3) := by decide +kernel
theorem dX6_on_53 : decode cX6_on 53 = .ok (.iconst 0, 1) := by decide +kernel
theorem dX6_on_54 : decode cX6_on 54 = .ok (.goto 4, 3) := by decide +kernel
theorem dX6_on_57 : decode cX6_on 57 = .ok (.iconst 2, 1) := by decide +kernel
theorem dX6_on_58 : decode cX6_on 58 = .ok (.invokevirtual 118, 3) := by decide +kernel
theorem dX6_on_61 : decode cX6_on 61 = .ok (.invokevirtual 152, 3) := by decide +kernel
theorem dX6_on_64 : decode cX6_on 64 = .ok (.ireturn, 1) := by decide +kernel
theorem dX6_wellIn_0 : decode cX6_wellIn 0 = .ok (.aload_n 0, 1) := by decide +kernel
theorem dX6_wellIn_1 : decode cX6_wellIn 1 = .ok (.invokevirtual 149, 3) := by decide +kernel
theorem dX6_wellIn_4 : decode cX6_wellIn 4 = .ok (.iconst 0, 1) := by decide +kernel
theorem dX6_wellIn_5 : decode cX6_wellIn 5 = .ok (.istore_n 2, 1) := by decide +kernel
theorem dX6_wellIn_6 : decode cX6_wellIn 6 = .ok (.iload_n 2, 1) := by decide +kernel
theorem dX6_wellIn_7 : decode cX6_wellIn 7 = .ok (.sipush 400, 3) := by decide +kernel
theorem dX6_wellIn_10 : decode cX6_wellIn 10 = .ok (.if_icmp .gt 22, 3) := by decide +kernel
theorem dX6_wellIn_13 : decode cX6_wellIn 13 = .ok (.aload_n 0, 1) := by decide +kernel
theorem dX6_wellIn_14 : decode cX6_wellIn 14 = .ok (.iload_n 1, 1) := by decide +kernel
theorem dX6_wellIn_15 : decode cX6_wellIn 15 = .ok (.iconst 0, 1) := by decide +kernel
theorem dX6_wellIn_16 : decode cX6_wellIn 16 = .ok (.invokevirtual 118, 3) := by decide +kernel
theorem dX6_wellIn_19 : decode cX6_wellIn 19 = .ok (.ifCond .le 13, 3) := by decide +kernel
theorem dX6_wellIn_22 : decode cX6_wellIn 22 = .ok (.aload_n 0, 1) := by decide +kernel
theorem dX6_wellIn_23 : decode cX6_wellIn 23 = .ok (.invokevirtual 130, 3) := by decide +kernel
theorem dX6_wellIn_26 : decode cX6_wellIn 26 = .ok (.iinc 2 1, 3) := by decide +kernel
theorem dX6_wellIn_29 : decode cX6_wellIn 29 = .ok (.goto (-23), 3) := by decide +kernel
theorem dX6_wellIn_32 : decode cX6_wellIn 32 = .ok (.aload_n 0, 1) := by decide +kernel
theorem dX6_wellIn_33 : decode cX6_wellIn 33 = .ok (.iload_n 2, 1) := by decide +kernel
theorem dX6_wellIn_34 : decode cX6_wellIn 34 = .ok (.invokevirtual 152, 3) := by decide +kernel
theorem dX6_wellIn_37 : decode cX6_wellIn 37 = .ok (.ireturn, 1) := by decide +kernel
theorem dX6_well_0 : decode cX6_well 0 = .ok (.aload_n 0, 1) := by decide +kernel
theorem dX6_well_1 : decode cX6_well 1 = .ok (.iload_n 1, 1) := by decide +kernel
theorem dX6_well_2 : decode cX6_well 2 = .ok (.invokevirtual 113, 3) := by decide +kernel
theorem dX6_well_5 : decode cX6_well 5 = .ok (.ifCond .ne 10, 3) := by decide +kernel
theorem dX6_well_8 : decode cX6_well 8 = .ok (.aload_n 0, 1) := by decide +kernel
theorem dX6_well_9 : decode cX6_well 9 = .ok (.ldc 41, 2) := by decide +kernel
theorem dX6_well_11 : decode cX6_well 11 = .ok (.invokevirtual 59, 3) := by decide +kernel
theorem dX6_well_14 : decode cX6_well 14 = .ok (.ireturn, 1) := by decide +kernel
theorem dX6_well_15 : decode cX6_well 15 = .ok (.aload_n 0, 1) := by decide +kernel
theorem dX6_well_16 : decode cX6_well 16 = .ok (.iload_n 1, 1) := by decide +kernel
theorem dX6_well_17 : decode cX6_well 17 = .ok (.invokevirtual 155, 3) := by decide +kernel
theorem dX6_well_20 : decode cX6_well 20 = .ok (.istore_n 2, 1) := by decide +kernel
theorem dX6_well_21 : decode cX6_well 21 = .ok (.iload_n 2, 1) := by decide +kernel
theorem dX6_well_22 : decode cX6_well 22 = .ok (.sipush 400, 3) := by decide +kernel
theorem dX6_well_25 : decode cX6_well 25 = .ok (.if_icmp .le 12, 3) := by decide +kernel
theorem dX6_well_28 : decode cX6_well 28 = .ok (.aload_n 0, 1) := by decide +kernel
theorem dX6_well_29 : decode cX6_well 29 = .ok (.ldc 158, 2) := by decide +kernel
theorem dX6_well_31 : decode cX6_well 31 = .ok (.invokevirtual 59, 3) := by decide +kernel
theorem dX6_well_34 : decode cX6_well 34 = .ok (.goto 4, 3) := by decide +kernel
theorem dX6_well_37 : decode cX6_well 37 = .ok (.iload_n 2, 1) := by decide +kernel
theorem dX6_well_38 : decode cX6_well 38 = .ok (.ireturn, 1) := by decide +kernel
theorem dX6_next_0 : decode cX6_next 0 = .ok (.aload_n 0, 1) := by decide +kernel
theorem dX6_next_1 : decode cX6_next 1 = .ok (.iload_n 1, 1) := by decide +kernel
theorem dX6_next_2 : decode cX6_next 2 = .ok (.invokevirtual 46, 3) := by decide +kernel
theorem dX6_next_5 : decode cX6_next 5 = .ok (.ifCond .ne 10, 3) := by decide +kernel
theorem dX6_next_8 : decode cX6_next 8 = .ok (.aload_n 0, 1) := by decide +kernel
theorem dX6_next_9 : decode cX6_next 9 = .ok (.ldc 41, 2) := by decide +kernel
theorem dX6_next_11 : decode cX6_next 11 = .ok (.invokevirtual 59, 3) := by decide +kernel
theorem dX6_next_14 : decode cX6_next 14 = .ok (.ireturn, 1) := by decide +kernel
theorem dX6_next_15 : decode cX6_next 15 = .ok (.aload_n 0, 1) := by decide +kernel
theorem dX6_next_16 : decode cX6_next 16 = .ok (.getfield 7, 3) := by decide +kernel
theorem dX6_next_19 : decode cX6_next 19 = .ok (.iconst 2, 1) := by decide +kernel
theorem dX6_next_20 : decode cX6_next 20 = .ok (.iaload, 1) := by decide +kernel
theorem dX6_next_21 : decode cX6_next 21 = .ok (.istore_n 2, 1) := by decide +kernel
theorem dX6_next_22 : decode cX6_next 22 = .ok (.iload_n 2, 1) := by decide +kernel
theorem dX6_next_23 : decode cX6_next 23 = .ok (.aload_n 0, 1) := by decide +kernel
theorem dX6_next_24 : decode cX6_next 24 = .ok (.getfield 7, 3) := by decide +kernel
theorem dX6_next_27 : decode cX6_next 27 = .ok (.iconst 2, 1) := by decide +kernel
theorem dX6_next_28 : decode cX6_next 28 = .ok (.iaload, 1) := by decide +kernel
theorem dX6_next_29 : decode cX6_next 29 = .ok (.sipush 400, 3) := by decide +kernel
theorem dX6_next_32 : decode cX6_next 32 = .ok (.iadd, 1) := by decide +kernel
theorem dX6_next_33 : decode cX6_next 33 = .ok (.if_icmp .gt 20, 3) := by decide +kernel
theorem dX6_next_36 : decode cX6_next 36 = .ok (.aload_n 0, 1) := by decide +kernel
theorem dX6_next_37 : decode cX6_next 37 = .ok (.iload_n 1, 1) := by decide +kernel
theorem dX6_next_38 : decode cX6_next 38 = .ok (.iload_n 2, 1) := by decide +kernel
theorem dX6_next_39 : decode cX6_next 39 = .ok (.invokevirtual 102, 3) := by decide +kernel
theorem dX6_next_42 : decode cX6_next 42 = .ok (.ifCond .eq 5, 3) := by decide +kernel
theorem dX6_next_45 : decode cX6_next 45 = .ok (.iload_n 2, 1) := by decide +kernel
theorem dX6_next_46 : decode cX6_next 46 = .ok (.ireturn, 1) := by decide +kernel
theorem dX6_next_47 : decode cX6_next 47 = .ok (.iinc 2 1, 3) := by decide +kernel
theorem dX6_next_50 : decode cX6_next 50 = .ok (.goto (-28), 3) := by decide +kernel
theorem dX6_next_53 : decode cX6_next 53 = .ok (.aload_n 0, 1) := by decide +kernel
theorem dX6_next_54 : decode cX6_next 54 = .ok (.ldc 158, 2) := by decide +kernel
theorem dX6_next_56 : decode cX6_next 56 = .ok (.invokevirtual 59, 3) := by decide +kernel
theorem dX6_next_59 : decode cX6_next 59 = .ok (.ireturn, 1) := by decide +kernel
theorem dX6_isAgreed_0 : decode cX6_isAgreed 0 = .ok (.aload_n 0, 1) := by decide +kernel
theorem dX6_isAgreed_1 : decode cX6_isAgreed 1 = .ok (.iload_n 1, 1) := by decide +kernel
theorem dX6_isAgreed_2 : decode cX6_isAgreed 2 = .ok (.iload_n 3, 1) := by decide +kernel
theorem dX6_isAgreed_3 : decode cX6_isAgreed 3 = .ok (.invokevirtual 102, 3) := by decide +kernel
theorem dX6_isAgreed_6 : decode cX6_isAgreed 6 = .ok (.aload_n 0, 1) := by decide +kernel
theorem dX6_isAgreed_7 : decode cX6_isAgreed 7 = .ok (.iload_n 2, 1) := by decide +kernel
theorem dX6_isAgreed_8 : decode cX6_isAgreed 8 = .ok (.iload_n 3, 1) := by decide +kernel
theorem dX6_isAgreed_9 : decode cX6_isAgreed 9 = .ok (.invokevirtual 102, 3) := by decide +kernel
theorem dX6_isAgreed_12 : decode cX6_isAgreed 12 = .ok (.if_icmp .ne 7, 3) := by decide +kernel
theorem dX6_isAgreed_15 : decode cX6_isAgreed 15 = .ok (.iconst 1, 1) := by decide +kernel
theorem dX6_isAgreed_16 : decode cX6_isAgreed 16 = .ok (.goto 4, 3) := by decide +kernel
theorem dX6_isAgreed_19 : decode cX6_isAgreed 19 = .ok (.iconst 0, 1) := by decide +kernel
theorem dX6_isAgreed_20 : decode cX6_isAgreed 20 = .ok (.ireturn, 1) := by decide +kernel
theorem dX6_agreed_0 : decode cX6_agreed 0 = .ok (.iconst 0, 1) := by decide +kernel
theorem dX6_agreed_1 : decode cX6_agreed 1 = .ok (.istore 4, 2) := by decide +kernel
theorem dX6_agreed_3 : decode cX6_agreed 3 = .ok (.aload_n 0, 1) := by decide +kernel
theorem dX6_agreed_4 : decode cX6_agreed 4 = .ok (.getfield 7, 3) := by decide +kernel
theorem dX6_agreed_7 : decode cX6_agreed 7 = .ok (.iconst 2, 1) := by decide +kernel
theorem dX6_agreed_8 : decode cX6_agreed 8 = .ok (.iaload, 1) := by decide +kernel
theorem dX6_agreed_9 : decode cX6_agreed 9 = .ok (.istore 5, 2) := by decide +kernel
theorem dX6_agreed_11 : decode cX6_agreed 11 = .ok (.iload 5, 2) := by decide +kernel
theorem dX6_agreed_13 : decode cX6_agreed 13 = .ok (.aload_n 0, 1) := by decide +kernel
theorem dX6_agreed_14 : decode cX6_agreed 14 = .ok (.getfield 7, 3) := by decide +kernel
theorem dX6_agreed_17 : decode cX6_agreed 17 = .ok (.iconst 2, 1) := by decide +kernel
theorem dX6_agreed_18 : decode cX6_agreed 18 = .ok (.iaload, 1) := by decide +kernel
theorem dX6_agreed_19 : decode cX6_agreed 19 = .ok (.iload_n 3, 1) := by decide +kernel
theorem dX6_agreed_20 : decode cX6_agreed 20 = .ok (.iadd, 1) := by decide +kernel
theorem dX6_agreed_21 : decode cX6_agreed 21 = .ok (.if_icmp .ge 30, 3) := by decide +kernel
theorem dX6_agreed_24 : decode cX6_agreed 24 = .ok (.iload 4, 2) := by decide +kernel
theorem dX6_agreed_26 : decode cX6_agreed 26 = .ok (.aload_n 0, 1) := by decide +kernel
theorem dX6_agreed_27 : decode cX6_agreed 27 = .ok (.iload_n 1, 1) := by decide +kernel
theorem dX6_agreed_28 : decode cX6_agreed 28 = .ok (.iload_n 2, 1) := by decide +kernel
theorem dX6_agreed_29 : decode cX6_agreed 29 = .ok (.iload 5, 2) := by decide +kernel
theorem dX6_agreed_31 : decode cX6_agreed 31 = .ok (.invokevirtual 159, 3) := by decide +kernel
theorem dX6_agreed_34 : decode cX6_agreed 34 = .ok (.ifCond .eq 7, 3) := by decide +kernel
theorem dX6_agreed_37 : decode cX6_agreed 37 = .ok (.iconst 1, 1) := by decide +kernel
theorem dX6_agreed_38 : decode cX6_agreed 38 = .ok (.goto 4, 3) := by decide +kernel
theorem dX6_agreed_41 : decode cX6_agreed 41 = .ok (.iconst 0, 1) := by decide +kernel
theorem dX6_agreed_42 : decode cX6_agreed 42 = .ok (.iadd, 1) := by decide +kernel
theorem dX6_agreed_43 : decode cX6_agreed 43 = .ok (.istore 4, 2) := by decide +kernel
theorem dX6_agreed_45 : decode cX6_agreed 45 = .ok (.iinc 5 1, 3) := by decide +kernel
theorem dX6_agreed_48 : decode cX6_agreed 48 = .ok (.goto (-37), 3) := by decide +kernel
theorem dX6_agreed_51 : decode cX6_agreed 51 = .ok (.iload 4, 2) := by decide +kernel
theorem dX6_agreed_53 : decode cX6_agreed 53 = .ok (.ireturn, 1) := by decide +kernel
theorem dX6_agree_0 : decode cX6_agree 0 = .ok (.aload_n 0, 1) := by decide +kernel
theorem dX6_agree_1 : decode cX6_agree 1 = .ok (.iload_n 1, 1) := by decide +kernel
theorem dX6_agree_2 : decode cX6_agree 2 = .ok (.iload_n 2, 1) := by decide +kernel
theorem dX6_agree_3 : decode cX6_agree 3 = .ok (.invokevirtual 163, 3) := by decide +kernel
theorem dX6_agree_6 : decode cX6_agree 6 = .ok (.ifCond .eq 25, 3) := by decide +kernel
theorem dX6_agree_9 : decode cX6_agree 9 = .ok (.iload_n 3, 1) := by decide +kernel
theorem dX6_agree_10 : decode cX6_agree 10 = .ok (.i2l, 1) := by decide +kernel
theorem dX6_agree_11 : decode cX6_agree 11 = .ok (.lconst 1, 1) := by decide +kernel
theorem dX6_agree_12 : decode cX6_agree 12 = .ok (.ldc2_w 133, 3) := by decide +kernel
theorem dX6_agree_15 : decode cX6_agree 15 = .ok (.invokestatic 42, 3) := by decide +kernel
theorem dX6_agree_18 : decode cX6_agree 18 = .ok (.ifCond .eq 13, 3) := by decide +kernel
theorem dX6_agree_21 : decode cX6_agree 21 = .ok (.aload_n 0, 1) := by decide +kernel
theorem dX6_agree_22 : decode cX6_agree 22 = .ok (.iload_n 1, 1) := by decide +kernel
theorem dX6_agree_23 : decode cX6_agree 23 = .ok (.iload_n 2, 1) := by decide +kernel
theorem dX6_agree_24 : decode cX6_agree 24 = .ok (.iload_n 3, 1) := by decide +kernel
theorem dX6_agree_25 : decode cX6_agree 25 = .ok (.invokevirtual 166, 3) := by decide +kernel
theorem dX6_agree_28 : decode cX6_agree 28 = .ok (.goto 9, 3) := by decide +kernel
theorem dX6_agree_31 : decode cX6_agree 31 = .ok (.aload_n 0, 1) := by decide +kernel
theorem dX6_agree_32 : decode cX6_agree 32 = .ok (.ldc 41, 2) := by decide +kernel
theorem dX6_agree_34 : decode cX6_agree 34 = .ok (.invokevirtual 59, 3) := by decide +kernel
theorem dX6_agree_37 : decode cX6_agree 37 = .ok (.ireturn, 1) := by decide +kernel
theorem dX6_row_0 : decode cX6_row 0 = .ok (.aload_n 0, 1) := by decide +kernel
theorem dX6_row_1 : decode cX6_row 1 = .ok (.iload_n 1, 1) := by decide +kernel
theorem dX6_row_2 : decode cX6_row 2 = .ok (.iload_n 2, 1) := by decide +kernel
theorem dX6_row_3 : decode cX6_row 3 = .ok (.invokevirtual 163, 3) := by decide +kernel
theorem dX6_row_6 : decode cX6_row 6 = .ok (.ifCond .eq 15, 3) := by decide +kernel
theorem dX6_row_9 : decode cX6_row 9 = .ok (.iload_n 3, 1) := by decide +kernel
theorem dX6_row_10 : decode cX6_row 10 = .ok (.i2l, 1) := by decide +kernel
theorem dX6_row_11 : decode cX6_row 11 = .ok (.lconst 1, 1) := by decide +kernel
theorem dX6_row_12 : decode cX6_row 12 = .ok (.ldc2_w 133, 3) := by decide +kernel
theorem dX6_row_15 : decode cX6_row 15 = .ok (.invokestatic 42, 3) := by decide +kernel
theorem dX6_row_18 : decode cX6_row 18 = .ok (.ifCond .ne 10, 3) := by decide +kernel
theorem dX6_row_21 : decode cX6_row 21 = .ok (.aload_n 0, 1) := by decide +kernel
theorem dX6_row_22 : decode cX6_row 22 = .ok (.ldc 41, 2) := by decide +kernel
theorem dX6_row_24 : decode cX6_row 24 = .ok (.invokevirtual 59, 3) := by decide +kernel
theorem dX6_row_27 : decode cX6_row 27 = .ok (.ireturn, 1) := by decide +kernel
theorem dX6_row_28 : decode cX6_row 28 = .ok (.iconst 0, 1) := by decide +kernel
theorem dX6_row_29 : decode cX6_row 29 = .ok (.istore 4, 2) := by decide +kernel
theorem dX6_row_31 : decode cX6_row 31 = .ok (.iconst 0, 1) := by decide +kernel
theorem dX6_row_32 : decode cX6_row 32 = .ok (.istore 5, 2) := by decide +kernel
theorem dX6_row_34 : decode cX6_row 34 = .ok (.aload_n 0, 1) := by decide +kernel
theorem dX6_row_35 : decode cX6_row 35 = .ok (.getfield 7, 3) := by decide +kernel
theorem dX6_row_38 : decode cX6_row 38 = .ok (.iconst 2, 1) := by decide +kernel
theorem dX6_row_39 : decode cX6_row 39 = .ok (.iaload, 1) := by decide +kernel
theorem dX6_row_40 : decode cX6_row 40 = .ok (.istore 6, 2) := by decide +kernel
theorem dX6_row_42 : decode cX6_row 42 = .ok (.iload 6, 2) := by decide +kernel
theorem dX6_row_44 : decode cX6_row 44 = .ok (.aload_n 0, 1) := by decide +kernel
theorem dX6_row_45 : decode cX6_row 45 = .ok (.getfield 7, 3) := by decide +kernel
theorem dX6_row_48 : decode cX6_row 48 = .ok (.iconst 2, 1) := by decide +kernel
theorem dX6_row_49 : decode cX6_row 49 = .ok (.iaload, 1) := by decide +kernel
theorem dX6_row_50 : decode cX6_row 50 = .ok (.iload_n 3, 1) := by decide +kernel
theorem dX6_row_51 : decode cX6_row 51 = .ok (.iadd, 1) := by decide +kernel
theorem dX6_row_52 : decode cX6_row 52 = .ok (.if_icmp .ge 46, 3) := by decide +kernel
theorem dX6_row_55 : decode cX6_row 55 = .ok (.aload_n 0, 1) := by decide +kernel
theorem dX6_row_56 : decode cX6_row 56 = .ok (.iload_n 1, 1) := by decide +kernel
theorem dX6_row_57 : decode cX6_row 57 = .ok (.iload_n 2, 1) := by decide +kernel
theorem dX6_row_58 : decode cX6_row 58 = .ok (.iload 6, 2) := by decide +kernel
theorem dX6_row_60 : decode cX6_row 60 = .ok (.invokevirtual 159, 3) := by decide +kernel
theorem dX6_row_63 : decode cX6_row 63 = .ok (.ifCond .eq 10, 3) := by decide +kernel
theorem dX6_row_66 : decode cX6_row 66 = .ok (.iload 5, 2) := by decide +kernel
theorem dX6_row_68 : decode cX6_row 68 = .ok (.iconst 1, 1) := by decide +kernel
theorem dX6_row_69 : decode cX6_row 69 = .ok (.iadd, 1) := by decide +kernel
theorem dX6_row_70 : decode cX6_row 70 = .ok (.goto 4, 3) := by decide +kernel
theorem dX6_row_73 : decode cX6_row 73 = .ok (.iconst 0, 1) := by decide +kernel
theorem dX6_row_74 : decode cX6_row 74 = .ok (.istore 5, 2) := by decide +kernel
theorem dX6_row_76 : decode cX6_row 76 = .ok (.iload 5, 2) := by decide +kernel
theorem dX6_row_78 : decode cX6_row 78 = .ok (.iload 4, 2) := by decide +kernel
theorem dX6_row_80 : decode cX6_row 80 = .ok (.if_icmp .le 8, 3) := by decide +kernel
theorem dX6_row_83 : decode cX6_row 83 = .ok (.iload 5, 2) := by decide +kernel
theorem dX6_row_85 : decode cX6_row 85 = .ok (.goto 5, 3) := by decide +kernel
theorem dX6_row_88 : decode cX6_row 88 = .ok (.iload 4, 2) := by decide +kernel
theorem dX6_row_90 : decode cX6_row 90 = .ok (.istore 4, 2) := by decide +kernel
theorem dX6_row_92 : decode cX6_row 92 = .ok (.iinc 6 1, 3) := by decide +kernel
theorem dX6_row_95 : decode cX6_row 95 = .ok (.goto (-53), 3) := by decide +kernel
theorem dX6_row_98 : decode cX6_row 98 = .ok (.iload 4, 2) := by decide +kernel
theorem dX6_row_100 : decode cX6_row 100 = .ok (.ireturn, 1) := by decide +kernel
theorem dX6_holyBy_0 : decode cX6_holyBy 0 = .ok (.iconst 0, 1) := by decide +kernel
theorem dX6_holyBy_1 : decode cX6_holyBy 1 = .ok (.istore_n 2, 1) := by decide +kernel
theorem dX6_holyBy_2 : decode cX6_holyBy 2 = .ok (.iconst 0, 1) := by decide +kernel
theorem dX6_holyBy_3 : decode cX6_holyBy 3 = .ok (.istore_n 3, 1) := by decide +kernel
theorem dX6_holyBy_4 : decode cX6_holyBy 4 = .ok (.iload_n 3, 1) := by decide +kernel
theorem dX6_holyBy_5 : decode cX6_holyBy 5 = .ok (.aload_n 0, 1) := by decide +kernel
theorem dX6_holyBy_6 : decode cX6_holyBy 6 = .ok (.getfield 7, 3) := by decide +kernel
theorem dX6_holyBy_9 : decode cX6_holyBy 9 = .ok (.iconst 0, 1) := by decide +kernel
theorem dX6_holyBy_10 : decode cX6_holyBy 10 = .ok (.iaload, 1) := by decide +kernel
theorem dX6_holyBy_11 : decode cX6_holyBy 11 = .ok (.if_icmp .ge 28, 3) := by decide +kernel
theorem dX6_holyBy_14 : decode cX6_holyBy 14 = .ok (.iload_n 2, 1) := by decide +kernel
theorem dX6_holyBy_15 : decode cX6_holyBy 15 = .ok (.aload_n 0, 1) := by decide +kernel
theorem dX6_holyBy_16 : decode cX6_holyBy 16 = .ok (.iload_n 3, 1) := by decide +kernel
theorem dX6_holyBy_17 : decode cX6_holyBy 17 = .ok (.iload_n 1, 1) := by decide +kernel
theorem dX6_holyBy_18 : decode cX6_holyBy 18 = .ok (.invokevirtual 102, 3) := by decide +kernel
theorem dX6_holyBy_21 : decode cX6_holyBy 21 = .ok (.ifCond .eq 9, 3) := by decide +kernel
theorem dX6_holyBy_24 : decode cX6_holyBy 24 = .ok (.iconst 1, 1) := by decide +kernel
theorem dX6_holyBy_25 : decode cX6_holyBy 25 = .ok (.iload_n 3, 1) := by decide +kernel
theorem dX6_holyBy_26 : decode cX6_holyBy 26 = .ok (.ishl, 1) := by decide +kernel
theorem dX6_holyBy_27 : decode cX6_holyBy 27 = .ok (.goto 4, 3) := by decide +kernel
theorem dX6_holyBy_30 : decode cX6_holyBy 30 = .ok (.iconst 0, 1) := by decide +kernel
theorem dX6_holyBy_31 : decode cX6_holyBy 31 = .ok (.ior, 1) := by decide +kernel
theorem dX6_holyBy_32 : decode cX6_holyBy 32 = .ok (.istore_n 2, 1) := by decide +kernel
theorem dX6_holyBy_33 : decode cX6_holyBy 33 = .ok (.iinc 3 1, 3) := by decide +kernel
theorem dX6_holyBy_36 : decode cX6_holyBy 36 = .ok (.goto (-32), 3) := by decide +kernel
theorem dX6_holyBy_39 : decode cX6_holyBy 39 = .ok (.iload_n 2, 1) := by decide +kernel
theorem dX6_holyBy_40 : decode cX6_holyBy 40 = .ok (.ireturn, 1) := by decide +kernel
theorem dX6_meet_0 : decode cX6_meet 0 = .ok (.iload_n 1, 1) := by decide +kernel
theorem dX6_meet_1 : decode cX6_meet 1 = .ok (.i2l, 1) := by decide +kernel
theorem dX6_meet_2 : decode cX6_meet 2 = .ok (.lconst 1, 1) := by decide +kernel
theorem dX6_meet_3 : decode cX6_meet 3 = .ok (.iconst 1, 1) := by decide +kernel
theorem dX6_meet_4 : decode cX6_meet 4 = .ok (.aload_n 0, 1) := by decide +kernel
theorem dX6_meet_5 : decode cX6_meet 5 = .ok (.getfield 7, 3) := by decide +kernel
theorem dX6_meet_8 : decode cX6_meet 8 = .ok (.iconst 0, 1) := by decide +kernel
theorem dX6_meet_9 : decode cX6_meet 9 = .ok (.iaload, 1) := by decide +kernel
theorem dX6_meet_10 : decode cX6_meet 10 = .ok (.ishl, 1) := by decide +kernel
theorem dX6_meet_11 : decode cX6_meet 11 = .ok (.iconst 1, 1) := by decide +kernel
theorem dX6_meet_12 : decode cX6_meet 12 = .ok (.isub, 1) := by decide +kernel
theorem dX6_meet_13 : decode cX6_meet 13 = .ok (.i2l, 1) := by decide +kernel
theorem dX6_meet_14 : decode cX6_meet 14 = .ok (.invokestatic 42, 3) := by decide +kernel
theorem dX6_meet_17 : decode cX6_meet 17 = .ok (.ifCond .ne 10, 3) := by decide +kernel
theorem dX6_meet_20 : decode cX6_meet 20 = .ok (.aload_n 0, 1) := by decide +kernel
theorem dX6_meet_21 : decode cX6_meet 21 = .ok (.ldc 41, 2) := by decide +kernel
theorem dX6_meet_23 : decode cX6_meet 23 = .ok (.invokevirtual 59, 3) := by decide +kernel
theorem dX6_meet_26 : decode cX6_meet 26 = .ok (.ireturn, 1) := by decide +kernel
theorem dX6_meet_27 : decode cX6_meet 27 = .ok (.aload_n 0, 1) := by decide +kernel
theorem dX6_meet_28 : decode cX6_meet 28 = .ok (.getfield 7, 3) := by decide +kernel
theorem dX6_meet_31 : decode cX6_meet 31 = .ok (.iconst 2, 1) := by decide +kernel
theorem dX6_meet_32 : decode cX6_meet 32 = .ok (.iaload, 1) := by decide +kernel
theorem dX6_meet_33 : decode cX6_meet 33 = .ok (.istore_n 2, 1) := by decide +kernel
theorem dX6_meet_34 : decode cX6_meet 34 = .ok (.iload_n 2, 1) := by decide +kernel
theorem dX6_meet_35 : decode cX6_meet 35 = .ok (.aload_n 0, 1) := by decide +kernel
theorem dX6_meet_36 : decode cX6_meet 36 = .ok (.getfield 7, 3) := by decide +kernel
theorem dX6_meet_39 : decode cX6_meet 39 = .ok (.iconst 2, 1) := by decide +kernel
theorem dX6_meet_40 : decode cX6_meet 40 = .ok (.iaload, 1) := by decide +kernel
theorem dX6_meet_41 : decode cX6_meet 41 = .ok (.sipush 2000, 3) := by decide +kernel
theorem dX6_meet_44 : decode cX6_meet 44 = .ok (.iadd, 1) := by decide +kernel
theorem dX6_meet_45 : decode cX6_meet 45 = .ok (.if_icmp .gt 20, 3) := by decide +kernel
theorem dX6_meet_48 : decode cX6_meet 48 = .ok (.aload_n 0, 1) := by decide +kernel
theorem dX6_meet_49 : decode cX6_meet 49 = .ok (.iload_n 2, 1) := by decide +kernel
theorem dX6_meet_50 : decode cX6_meet 50 = .ok (.invokevirtual 170, 3) := by decide +kernel
theorem dX6_meet_53 : decode cX6_meet 53 = .ok (.iload_n 1, 1) := by decide +kernel
theorem dX6_meet_54 : decode cX6_meet 54 = .ok (.if_icmp .ne 5, 3) := by decide +kernel
theorem dX6_meet_57 : decode cX6_meet 57 = .ok (.iload_n 2, 1) := by decide +kernel
theorem dX6_meet_58 : decode cX6_meet 58 = .ok (.ireturn, 1) := by decide +kernel
theorem dX6_meet_59 : decode cX6_meet 59 = .ok (.iinc 2 1, 3) := by decide +kernel
theorem dX6_meet_62 : decode cX6_meet 62 = .ok (.goto (-28), 3) := by decide +kernel
theorem dX6_meet_65 : decode cX6_meet 65 = .ok (.aload_n 0, 1) := by decide +kernel
theorem dX6_meet_66 : decode cX6_meet 66 = .ok (.ldc 158, 2) := by decide +kernel
theorem dX6_meet_68 : decode cX6_meet 68 = .ok (.invokevirtual 59, 3) := by decide +kernel
theorem dX6_meet_71 : decode cX6_meet 71 = .ok (.ireturn, 1) := by decide +kernel
theorem dX6_isDate_0 : decode cX6_isDate 0 = .ok (.iload_n 0, 1) := by decide +kernel
theorem dX6_isDate_1 : decode cX6_isDate 1 = .ok (.i2l, 1) := by decide +kernel
theorem dX6_isDate_2 : decode cX6_isDate 2 = .ok (.lconst 1, 1) := by decide +kernel
theorem dX6_isDate_3 : decode cX6_isDate 3 = .ok (.ldc2_w 72, 3) := by decide +kernel
theorem dX6_isDate_6 : decode cX6_isDate 6 = .ok (.invokestatic 42, 3) := by decide +kernel
theorem dX6_isDate_9 : decode cX6_isDate 9 = .ok (.ireturn, 1) := by decide +kernel
theorem dX6_both_0 : decode cX6_both 0 = .ok (.aload_n 0, 1) := by decide +kernel
theorem dX6_both_1 : decode cX6_both 1 = .ok (.iload_n 1, 1) := by decide +kernel
theorem dX6_both_2 : decode cX6_both 2 = .ok (.iload_n 3, 1) := by decide +kernel
theorem dX6_both_3 : decode cX6_both 3 = .ok (.invokevirtual 163, 3) := by decide +kernel
theorem dX6_both_6 : decode cX6_both 6 = .ok (.ifCond .eq 18, 3) := by decide +kernel
theorem dX6_both_9 : decode cX6_both 9 = .ok (.iload_n 2, 1) := by decide +kernel
theorem dX6_both_10 : decode cX6_both 10 = .ok (.invokestatic 173, 3) := by decide +kernel
theorem dX6_both_13 : decode cX6_both 13 = .ok (.ifCond .eq 11, 3) := by decide +kernel
theorem dX6_both_16 : decode cX6_both 16 = .ok (.iload 4, 2) := by decide +kernel
theorem dX6_both_18 : decode cX6_both 18 = .ok (.invokestatic 173, 3) := by decide +kernel
theorem dX6_both_21 : decode cX6_both 21 = .ok (.ifCond .ne 10, 3) := by decide +kernel
theorem dX6_both_24 : decode cX6_both 24 = .ok (.aload_n 0, 1) := by decide +kernel
theorem dX6_both_25 : decode cX6_both 25 = .ok (.ldc 41, 2) := by decide +kernel
theorem dX6_both_27 : decode cX6_both 27 = .ok (.invokevirtual 59, 3) := by decide +kernel
theorem dX6_both_30 : decode cX6_both 30 = .ok (.ireturn, 1) := by decide +kernel
theorem dX6_both_31 : decode cX6_both 31 = .ok (.aload_n 0, 1) := by decide +kernel
theorem dX6_both_32 : decode cX6_both 32 = .ok (.getfield 7, 3) := by decide +kernel
theorem dX6_both_35 : decode cX6_both 35 = .ok (.iconst 2, 1) := by decide +kernel
theorem dX6_both_36 : decode cX6_both 36 = .ok (.iaload, 1) := by decide +kernel
theorem dX6_both_37 : decode cX6_both 37 = .ok (.istore 5, 2) := by decide +kernel
theorem dX6_both_39 : decode cX6_both 39 = .ok (.iload 5, 2) := by decide +kernel
theorem dX6_both_41 : decode cX6_both 41 = .ok (.aload_n 0, 1) := by decide +kernel
theorem dX6_both_42 : decode cX6_both 42 = .ok (.getfield 7, 3) := by decide +kernel
theorem dX6_both_45 : decode cX6_both 45 = .ok (.iconst 2, 1) := by decide +kernel
theorem dX6_both_46 : decode cX6_both 46 = .ok (.iaload, 1) := by decide +kernel
theorem dX6_both_47 : decode cX6_both 47 = .ok (.sipush 2000, 3) := by decide +kernel
theorem dX6_both_50 : decode cX6_both 50 = .ok (.iadd, 1) := by decide +kernel
theorem dX6_both_51 : decode cX6_both 51 = .ok (.if_icmp .gt 35, 3) := by decide +kernel
theorem dX6_both_54 : decode cX6_both 54 = .ok (.aload_n 0, 1) := by decide +kernel
theorem dX6_both_55 : decode cX6_both 55 = .ok (.iload_n 1, 1) := by decide +kernel
theorem dX6_both_56 : decode cX6_both 56 = .ok (.iload 5, 2) := by decide +kernel
theorem dX6_both_58 : decode cX6_both 58 = .ok (.invokevirtual 92, 3) := by decide +kernel
theorem dX6_both_61 : decode cX6_both 61 = .ok (.iload_n 2, 1) := by decide +kernel
theorem dX6_both_62 : decode cX6_both 62 = .ok (.if_icmp .ne 18, 3) := by decide +kernel
theorem dX6_both_65 : decode cX6_both 65 = .ok (.aload_n 0, 1) := by decide +kernel
theorem dX6_both_66 : decode cX6_both 66 = .ok (.iload_n 3, 1) := by decide +kernel
theorem dX6_both_67 : decode cX6_both 67 = .ok (.iload 5, 2) := by decide +kernel
theorem dX6_both_69 : decode cX6_both 69 = .ok (.invokevirtual 92, 3) := by decide +kernel
theorem dX6_both_72 : decode cX6_both 72 = .ok (.iload 4, 2) := by decide +kernel
theorem dX6_both_74 : decode cX6_both 74 = .ok (.if_icmp .ne 6, 3) := by decide +kernel
theorem dX6_both_77 : decode cX6_both 77 = .ok (.iload 5, 2) := by decide +kernel
theorem dX6_both_79 : decode cX6_both 79 = .ok (.ireturn, 1) := by decide +kernel
theorem dX6_both_80 : decode cX6_both 80 = .ok (.iinc 5 1, 3) := by decide +kernel
theorem dX6_both_83 : decode cX6_both 83 = .ok (.goto (-44), 3) := by decide +kernel
theorem dX6_both_86 : decode cX6_both 86 = .ok (.aload_n 0, 1) := by decide +kernel
theorem dX6_both_87 : decode cX6_both 87 = .ok (.ldc 158, 2) := by decide +kernel
theorem dX6_both_89 : decode cX6_both 89 = .ok (.invokevirtual 59, 3) := by decide +kernel
theorem dX6_both_92 : decode cX6_both 92 = .ok (.ireturn, 1) := by decide +kernel
theorem dX6_trust_0 : decode cX6_trust 0 = .ok (.aload_n 0, 1) := by decide +kernel
theorem dX6_trust_1 : decode cX6_trust 1 = .ok (.iload_n 1, 1) := by decide +kernel
theorem dX6_trust_2 : decode cX6_trust 2 = .ok (.invokevirtual 113, 3) := by decide +kernel
theorem dX6_trust_5 : decode cX6_trust 5 = .ok (.ifCond .ne 10, 3) := by decide +kernel
theorem dX6_trust_8 : decode cX6_trust 8 = .ok (.aload_n 0, 1) := by decide +kernel
theorem dX6_trust_9 : decode cX6_trust 9 = .ok (.ldc 41, 2) := by decide +kernel
theorem dX6_trust_11 : decode cX6_trust 11 = .ok (.invokevirtual 59, 3) := by decide +kernel
theorem dX6_trust_14 : decode cX6_trust 14 = .ok (.ireturn, 1) := by decide +kernel
theorem dX6_trust_15 : decode cX6_trust 15 = .ok (.aload_n 0, 1) := by decide +kernel
theorem dX6_trust_16 : decode cX6_trust 16 = .ok (.iload_n 1, 1) := by decide +kernel
theorem dX6_trust_17 : decode cX6_trust 17 = .ok (.iconst 1, 1) := by decide +kernel
theorem dX6_trust_18 : decode cX6_trust 18 = .ok (.invokevirtual 118, 3) := by decide +kernel
theorem dX6_trust_21 : decode cX6_trust 21 = .ok (.istore_n 2, 1) := by decide +kernel
theorem dX6_trust_22 : decode cX6_trust 22 = .ok (.bipush (-2), 2) := by decide +kernel
theorem dX6_trust_24 : decode cX6_trust 24 = .ok (.istore_n 3, 1) := by decide +kernel
theorem dX6_trust_25 : decode cX6_trust 25 = .ok (.sipush 401, 3) := by decide +kernel
theorem dX6_trust_28 : decode cX6_trust 28 = .ok (.istore 4, 2) := by decide +kernel
theorem dX6_trust_30 : decode cX6_trust 30 = .ok (.iconst 0, 1) := by decide +kernel
theorem dX6_trust_31 : decode cX6_trust 31 = .ok (.istore 5, 2) := by decide +kernel
theorem dX6_trust_33 : decode cX6_trust 33 = .ok (.iload 5, 2) := by decide +kernel
theorem dX6_trust_35 : decode cX6_trust 35 = .ok (.aload_n 0, 1) := by decide +kernel
theorem dX6_trust_36 : decode cX6_trust 36 = .ok (.getfield 7, 3) := by decide +kernel
theorem dX6_trust_39 : decode cX6_trust 39 = .ok (.iconst 0, 1) := by decide +kernel
theorem dX6_trust_40 : decode cX6_trust 40 = .ok (.iaload, 1) := by decide +kernel
theorem dX6_trust_41 : decode cX6_trust 41 = .ok (.if_icmp .gt 77, 3) := by decide +kernel
theorem dX6_trust_44 : decode cX6_trust 44 = .ok (.iload 5, 2) := by decide +kernel
theorem dX6_trust_46 : decode cX6_trust 46 = .ok (.aload_n 0, 1) := by decide +kernel
theorem dX6_trust_47 : decode cX6_trust 47 = .ok (.getfield 7, 3) := by decide +kernel
theorem dX6_trust_50 : decode cX6_trust 50 = .ok (.iconst 0, 1) := by decide +kernel
theorem dX6_trust_51 : decode cX6_trust 51 = .ok (.iaload, 1) := by decide +kernel
theorem dX6_trust_52 : decode cX6_trust 52 = .ok (.if_icmp .ne 7, 3) := by decide +kernel
theorem dX6_trust_55 : decode cX6_trust 55 = .ok (.iconst (-1), 1) := by decide +kernel
theorem dX6_trust_56 : decode cX6_trust 56 = .ok (.goto 5, 3) := by decide +kernel
theorem dX6_trust_59 : decode cX6_trust 59 = .ok (.iload 5, 2) := by decide +kernel
theorem dX6_trust_61 : decode cX6_trust 61 = .ok (.istore 6, 2) := by decide +kernel
theorem dX6_trust_63 : decode cX6_trust 63 = .ok (.aload_n 0, 1) := by decide +kernel
theorem dX6_trust_64 : decode cX6_trust 64 = .ok (.getfield 7, 3) := by decide +kernel
theorem dX6_trust_67 : decode cX6_trust 67 = .ok (.iload_n 1, 1) := by decide +kernel
theorem dX6_trust_68 : decode cX6_trust 68 = .ok (.iconst 1, 1) := by decide +kernel
theorem dX6_trust_69 : decode cX6_trust 69 = .ok (.invokestatic 52, 3) := by decide +kernel
theorem dX6_trust_72 : decode cX6_trust 72 = .ok (.iload 6, 2) := by decide +kernel
theorem dX6_trust_74 : decode cX6_trust 74 = .ok (.iastore, 1) := by decide +kernel
theorem dX6_trust_75 : decode cX6_trust 75 = .ok (.aload_n 0, 1) := by decide +kernel
theorem dX6_trust_76 : decode cX6_trust 76 = .ok (.iload_n 1, 1) := by decide +kernel
theorem dX6_trust_77 : decode cX6_trust 77 = .ok (.invokevirtual 155, 3) := by decide +kernel
theorem dX6_trust_80 : decode cX6_trust 80 = .ok (.istore 7, 2) := by decide +kernel
theorem dX6_trust_82 : decode cX6_trust 82 = .ok (.iload 7, 2) := by decide +kernel
theorem dX6_trust_84 : decode cX6_trust 84 = .ok (.iload 4, 2) := by decide +kernel
theorem dX6_trust_86 : decode cX6_trust 86 = .ok (.if_icmp .ge 8, 3) := by decide +kernel
theorem dX6_trust_89 : decode cX6_trust 89 = .ok (.iload 6, 2) := by decide +kernel
theorem dX6_trust_91 : decode cX6_trust 91 = .ok (.goto 4, 3) := by decide +kernel
theorem dX6_trust_94 : decode cX6_trust 94 = .ok (.iload_n 3, 1) := by decide +kernel
theorem dX6_trust_95 : decode cX6_trust 95 = .ok (.istore_n 3, 1) := by decide +kernel
theorem dX6_trust_96 : decode cX6_trust 96 = .ok (.iload 7, 2) := by decide +kernel
theorem dX6_trust_98 : decode cX6_trust 98 = .ok (.iload 4, 2) := by decide +kernel
theorem dX6_trust_100 : decode cX6_trust 100 = .ok (.if_icmp .ge 8, 3) := by decide +kernel
theorem dX6_trust_103 : decode cX6_trust 103 = .ok (.iload 7, 2) := by decide +kernel
theorem dX6_trust_105 : decode cX6_trust 105 = .ok (.goto 5, 3) := by decide +kernel
theorem dX6_trust_108 : decode cX6_trust 108 = .ok (.iload 4, 2) := by decide +kernel
theorem dX6_trust_110 : decode cX6_trust 110 = .ok (.istore 4, 2) := by decide +kernel
theorem dX6_trust_112 : decode cX6_trust 112 = .ok (.iinc 5 1, 3) := by decide +kernel
theorem dX6_trust_115 : decode cX6_trust 115 = .ok (.goto (-82), 3) := by decide +kernel
theorem dX6_trust_118 : decode cX6_trust 118 = .ok (.aload_n 0, 1) := by decide +kernel
theorem dX6_trust_119 : decode cX6_trust 119 = .ok (.getfield 7, 3) := by decide +kernel
theorem dX6_trust_122 : decode cX6_trust 122 = .ok (.iload_n 1, 1) := by decide +kernel
theorem dX6_trust_123 : decode cX6_trust 123 = .ok (.iconst 1, 1) := by decide +kernel
theorem dX6_trust_124 : decode cX6_trust 124 = .ok (.invokestatic 52, 3) := by decide +kernel
theorem dX6_trust_127 : decode cX6_trust 127 = .ok (.iload_n 2, 1) := by decide +kernel
theorem dX6_trust_128 : decode cX6_trust 128 = .ok (.iastore, 1) := by decide +kernel
theorem dX6_trust_129 : decode cX6_trust 129 = .ok (.iload_n 3, 1) := by decide +kernel
theorem dX6_trust_130 : decode cX6_trust 130 = .ok (.bipush (-2), 2) := by decide +kernel
theorem dX6_trust_132 : decode cX6_trust 132 = .ok (.if_icmp .ne 12, 3) := by decide +kernel
theorem dX6_trust_135 : decode cX6_trust 135 = .ok (.aload_n 0, 1) := by decide +kernel
theorem dX6_trust_136 : decode cX6_trust 136 = .ok (.ldc 158, 2) := by decide +kernel
theorem dX6_trust_138 : decode cX6_trust 138 = .ok (.invokevirtual 59, 3) := by decide +kernel
theorem dX6_trust_141 : decode cX6_trust 141 = .ok (.goto 4, 3) := by decide +kernel
theorem dX6_trust_144 : decode cX6_trust 144 = .ok (.iload_n 3, 1) := by decide +kernel
theorem dX6_trust_145 : decode cX6_trust 145 = .ok (.ireturn, 1) := by decide +kernel
theorem dX6_truth_0 : decode cX6_truth 0 = .ok (.iload_n 1, 1) := by decide +kernel
theorem dX6_truth_1 : decode cX6_truth 1 = .ok (.i2l, 1) := by decide +kernel
theorem dX6_truth_2 : decode cX6_truth 2 = .ok (.lconst 1, 1) := by decide +kernel
theorem dX6_truth_3 : decode cX6_truth 3 = .ok (.ldc2_w 176, 3) := by decide +kernel
theorem dX6_truth_6 : decode cX6_truth 6 = .ok (.invokestatic 42, 3) := by decide +kernel
theorem dX6_truth_9 : decode cX6_truth 9 = .ok (.ifCond .ne 10, 3) := by decide +kernel
theorem dX6_truth_12 : decode cX6_truth 12 = .ok (.aload_n 0, 1) := by decide +kernel
theorem dX6_truth_13 : decode cX6_truth 13 = .ok (.ldc 41, 2) := by decide +kernel
theorem dX6_truth_15 : decode cX6_truth 15 = .ok (.invokevirtual 59, 3) := by decide +kernel
theorem dX6_truth_18 : decode cX6_truth 18 = .ok (.ireturn, 1) := by decide +kernel
theorem dX6_truth_19 : decode cX6_truth 19 = .ok (.aload_n 0, 1) := by decide +kernel
theorem dX6_truth_20 : decode cX6_truth 20 = .ok (.getfield 7, 3) := by decide +kernel
theorem dX6_truth_23 : decode cX6_truth 23 = .ok (.iconst 4, 1) := by decide +kernel
theorem dX6_truth_24 : decode cX6_truth 24 = .ok (.iaload, 1) := by decide +kernel
theorem dX6_truth_25 : decode cX6_truth 25 = .ok (.istore_n 2, 1) := by decide +kernel
theorem dX6_truth_26 : decode cX6_truth 26 = .ok (.iconst (-1), 1) := by decide +kernel
theorem dX6_truth_27 : decode cX6_truth 27 = .ok (.istore_n 3, 1) := by decide +kernel
theorem dX6_truth_28 : decode cX6_truth 28 = .ok (.iconst 0, 1) := by decide +kernel
theorem dX6_truth_29 : decode cX6_truth 29 = .ok (.istore 4, 2) := by decide +kernel
theorem dX6_truth_31 : decode cX6_truth 31 = .ok (.iconst 0, 1) := by decide +kernel
theorem dX6_truth_32 : decode cX6_truth 32 = .ok (.istore 5, 2) := by decide +kernel
theorem dX6_truth_34 : decode cX6_truth 34 = .ok (.iload 5, 2) := by decide +kernel
theorem dX6_truth_36 : decode cX6_truth 36 = .ok (.aload_n 0, 1) := by decide +kernel
theorem dX6_truth_37 : decode cX6_truth 37 = .ok (.getfield 7, 3) := by decide +kernel
theorem dX6_truth_40 : decode cX6_truth 40 = .ok (.iconst 0, 1) := by decide +kernel
theorem dX6_truth_41 : decode cX6_truth 41 = .ok (.iaload, 1) := by decide +kernel
theorem dX6_truth_42 : decode cX6_truth 42 = .ok (.if_icmp .ge 70, 3) := by decide +kernel
theorem dX6_truth_45 : decode cX6_truth 45 = .ok (.aload_n 0, 1) := by decide +kernel
theorem dX6_truth_46 : decode cX6_truth 46 = .ok (.getfield 7, 3) := by decide +kernel
theorem dX6_truth_49 : decode cX6_truth 49 = .ok (.iconst 4, 1) := by decide +kernel
theorem dX6_truth_50 : decode cX6_truth 50 = .ok (.iload 5, 2) := by decide +kernel
theorem dX6_truth_52 : decode cX6_truth 52 = .ok (.iastore, 1) := by decide +kernel
theorem dX6_truth_53 : decode cX6_truth 53 = .ok (.aload_n 0, 1) := by decide +kernel
theorem dX6_truth_54 : decode cX6_truth 54 = .ok (.invokevirtual 149, 3) := by decide +kernel
theorem dX6_truth_57 : decode cX6_truth 57 = .ok (.aload_n 0, 1) := by decide +kernel
theorem dX6_truth_58 : decode cX6_truth 58 = .ok (.iload_n 1, 1) := by decide +kernel
theorem dX6_truth_59 : decode cX6_truth 59 = .ok (.invokevirtual 136, 3) := by decide +kernel
theorem dX6_truth_62 : decode cX6_truth 62 = .ok (.aload_n 0, 1) := by decide +kernel
theorem dX6_truth_63 : decode cX6_truth 63 = .ok (.aload_n 0, 1) := by decide +kernel
theorem dX6_truth_64 : decode cX6_truth 64 = .ok (.iconst 0, 1) := by decide +kernel
theorem dX6_truth_65 : decode cX6_truth 65 = .ok (.invokevirtual 146, 3) := by decide +kernel
theorem dX6_truth_68 : decode cX6_truth 68 = .ok (.invokevirtual 152, 3) := by decide +kernel
theorem dX6_truth_71 : decode cX6_truth 71 = .ok (.istore 6, 2) := by decide +kernel
theorem dX6_truth_73 : decode cX6_truth 73 = .ok (.iload_n 3, 1) := by decide +kernel
theorem dX6_truth_74 : decode cX6_truth 74 = .ok (.ifCond .lt 10, 3) := by decide +kernel
theorem dX6_truth_77 : decode cX6_truth 77 = .ok (.iload 6, 2) := by decide +kernel
theorem dX6_truth_79 : decode cX6_truth 79 = .ok (.iload 4, 2) := by decide +kernel
theorem dX6_truth_81 : decode cX6_truth 81 = .ok (.if_icmp .ge 8, 3) := by decide +kernel
theorem dX6_truth_84 : decode cX6_truth 84 = .ok (.iload 5, 2) := by decide +kernel
theorem dX6_truth_86 : decode cX6_truth 86 = .ok (.goto 4, 3) := by decide +kernel
theorem dX6_truth_89 : decode cX6_truth 89 = .ok (.iload_n 3, 1) := by decide +kernel
theorem dX6_truth_90 : decode cX6_truth 90 = .ok (.istore_n 3, 1) := by decide +kernel
theorem dX6_truth_91 : decode cX6_truth 91 = .ok (.iload_n 3, 1) := by decide +kernel
theorem dX6_truth_92 : decode cX6_truth 92 = .ok (.iload 5, 2) := by decide +kernel
theorem dX6_truth_94 : decode cX6_truth 94 = .ok (.if_icmp .ne 8, 3) := by decide +kernel
theorem dX6_truth_97 : decode cX6_truth 97 = .ok (.iload 6, 2) := by decide +kernel
theorem dX6_truth_99 : decode cX6_truth 99 = .ok (.goto 5, 3) := by decide +kernel
theorem dX6_truth_102 : decode cX6_truth 102 = .ok (.iload 4, 2) := by decide +kernel
theorem dX6_truth_104 : decode cX6_truth 104 = .ok (.istore 4, 2) := by decide +kernel
theorem dX6_truth_106 : decode cX6_truth 106 = .ok (.iinc 5 1, 3) := by decide +kernel
theorem dX6_truth_109 : decode cX6_truth 109 = .ok (.goto (-75), 3) := by decide +kernel
theorem dX6_truth_112 : decode cX6_truth 112 = .ok (.aload_n 0, 1) := by decide +kernel
theorem dX6_truth_113 : decode cX6_truth 113 = .ok (.getfield 7, 3) := by decide +kernel
theorem dX6_truth_116 : decode cX6_truth 116 = .ok (.iconst 4, 1) := by decide +kernel
theorem dX6_truth_117 : decode cX6_truth 117 = .ok (.iload_n 2, 1) := by decide +kernel
theorem dX6_truth_118 : decode cX6_truth 118 = .ok (.iastore, 1) := by decide +kernel
theorem dX6_truth_119 : decode cX6_truth 119 = .ok (.iload_n 3, 1) := by decide +kernel
theorem dX6_truth_120 : decode cX6_truth 120 = .ok (.ifCond .ge 12, 3) := by decide +kernel
theorem dX6_truth_123 : decode cX6_truth 123 = .ok (.aload_n 0, 1) := by decide +kernel
theorem dX6_truth_124 : decode cX6_truth 124 = .ok (.ldc 158, 2) := by decide +kernel
theorem dX6_truth_126 : decode cX6_truth 126 = .ok (.invokevirtual 59, 3) := by decide +kernel
theorem dX6_truth_129 : decode cX6_truth 129 = .ok (.goto 4, 3) := by decide +kernel
theorem dX6_truth_132 : decode cX6_truth 132 = .ok (.iload_n 3, 1) := by decide +kernel
theorem dX6_truth_133 : decode cX6_truth 133 = .ok (.ireturn, 1) := by decide +kernel
theorem dX6_cure_0 : decode cX6_cure 0 = .ok (.aload_n 0, 1) := by decide +kernel
theorem dX6_cure_1 : decode cX6_cure 1 = .ok (.iload_n 1, 1) := by decide +kernel
theorem dX6_cure_2 : decode cX6_cure 2 = .ok (.invokevirtual 113, 3) := by decide +kernel
theorem dX6_cure_5 : decode cX6_cure 5 = .ok (.ifCond .ne 10, 3) := by decide +kernel
theorem dX6_cure_8 : decode cX6_cure 8 = .ok (.aload_n 0, 1) := by decide +kernel
theorem dX6_cure_9 : decode cX6_cure 9 = .ok (.ldc 41, 2) := by decide +kernel
theorem dX6_cure_11 : decode cX6_cure 11 = .ok (.invokevirtual 59, 3) := by decide +kernel
theorem dX6_cure_14 : decode cX6_cure 14 = .ok (.ireturn, 1) := by decide +kernel
theorem dX6_cure_15 : decode cX6_cure 15 = .ok (.aload_n 0, 1) := by decide +kernel
theorem dX6_cure_16 : decode cX6_cure 16 = .ok (.iload_n 1, 1) := by decide +kernel
theorem dX6_cure_17 : decode cX6_cure 17 = .ok (.iconst 0, 1) := by decide +kernel
theorem dX6_cure_18 : decode cX6_cure 18 = .ok (.invokevirtual 118, 3) := by decide +kernel
theorem dX6_cure_21 : decode cX6_cure 21 = .ok (.istore_n 2, 1) := by decide +kernel
theorem dX6_cure_22 : decode cX6_cure 22 = .ok (.iload_n 2, 1) := by decide +kernel
theorem dX6_cure_23 : decode cX6_cure 23 = .ok (.ifCond .ne 10, 3) := by decide +kernel
theorem dX6_cure_26 : decode cX6_cure 26 = .ok (.aload_n 0, 1) := by decide +kernel
theorem dX6_cure_27 : decode cX6_cure 27 = .ok (.ldc 121, 2) := by decide +kernel
theorem dX6_cure_29 : decode cX6_cure 29 = .ok (.invokevirtual 59, 3) := by decide +kernel
theorem dX6_cure_32 : decode cX6_cure 32 = .ok (.ireturn, 1) := by decide +kernel
theorem dX6_cure_33 : decode cX6_cure 33 = .ok (.aload_n 0, 1) := by decide +kernel
theorem dX6_cure_34 : decode cX6_cure 34 = .ok (.getfield 7, 3) := by decide +kernel
theorem dX6_cure_37 : decode cX6_cure 37 = .ok (.iconst 2, 1) := by decide +kernel
theorem dX6_cure_38 : decode cX6_cure 38 = .ok (.iaload, 1) := by decide +kernel
theorem dX6_cure_39 : decode cX6_cure 39 = .ok (.istore_n 3, 1) := by decide +kernel
theorem dX6_cure_40 : decode cX6_cure 40 = .ok (.iload_n 3, 1) := by decide +kernel
theorem dX6_cure_41 : decode cX6_cure 41 = .ok (.aload_n 0, 1) := by decide +kernel
theorem dX6_cure_42 : decode cX6_cure 42 = .ok (.getfield 7, 3) := by decide +kernel
theorem dX6_cure_45 : decode cX6_cure 45 = .ok (.iconst 2, 1) := by decide +kernel
theorem dX6_cure_46 : decode cX6_cure 46 = .ok (.iaload, 1) := by decide +kernel
theorem dX6_cure_47 : decode cX6_cure 47 = .ok (.sipush 2000, 3) := by decide +kernel
theorem dX6_cure_50 : decode cX6_cure 50 = .ok (.iadd, 1) := by decide +kernel
theorem dX6_cure_51 : decode cX6_cure 51 = .ok (.if_icmp .gt 42, 3) := by decide +kernel
theorem dX6_cure_54 : decode cX6_cure 54 = .ok (.iload_n 2, 1) := by decide +kernel
theorem dX6_cure_55 : decode cX6_cure 55 = .ok (.aload_n 0, 1) := by decide +kernel
theorem dX6_cure_56 : decode cX6_cure 56 = .ok (.aload_n 0, 1) := by decide +kernel
theorem dX6_cure_57 : decode cX6_cure 57 = .ok (.getfield 7, 3) := by decide +kernel
theorem dX6_cure_60 : decode cX6_cure 60 = .ok (.iconst 4, 1) := by decide +kernel
theorem dX6_cure_61 : decode cX6_cure 61 = .ok (.iaload, 1) := by decide +kernel
theorem dX6_cure_62 : decode cX6_cure 62 = .ok (.iload_n 3, 1) := by decide +kernel
theorem dX6_cure_63 : decode cX6_cure 63 = .ok (.invokevirtual 102, 3) := by decide +kernel
theorem dX6_cure_66 : decode cX6_cure 66 = .ok (.ifCond .eq 12, 3) := by decide +kernel
theorem dX6_cure_69 : decode cX6_cure 69 = .ok (.aload_n 0, 1) := by decide +kernel
theorem dX6_cure_70 : decode cX6_cure 70 = .ok (.getfield 7, 3) := by decide +kernel
theorem dX6_cure_73 : decode cX6_cure 73 = .ok (.iconst 3, 1) := by decide +kernel
theorem dX6_cure_74 : decode cX6_cure 74 = .ok (.iaload, 1) := by decide +kernel
theorem dX6_cure_75 : decode cX6_cure 75 = .ok (.goto 4, 3) := by decide +kernel
theorem dX6_cure_78 : decode cX6_cure 78 = .ok (.iconst 0, 1) := by decide +kernel
theorem dX6_cure_79 : decode cX6_cure 79 = .ok (.isub, 1) := by decide +kernel
theorem dX6_cure_80 : decode cX6_cure 80 = .ok (.istore_n 2, 1) := by decide +kernel
theorem dX6_cure_81 : decode cX6_cure 81 = .ok (.iload_n 2, 1) := by decide +kernel
theorem dX6_cure_82 : decode cX6_cure 82 = .ok (.ifCond .gt 5, 3) := by decide +kernel
theorem dX6_cure_85 : decode cX6_cure 85 = .ok (.iload_n 3, 1) := by decide +kernel
theorem dX6_cure_86 : decode cX6_cure 86 = .ok (.ireturn, 1) := by decide +kernel
theorem dX6_cure_87 : decode cX6_cure 87 = .ok (.iinc 3 1, 3) := by decide +kernel
theorem dX6_cure_90 : decode cX6_cure 90 = .ok (.goto (-50), 3) := by decide +kernel
theorem dX6_cure_93 : decode cX6_cure 93 = .ok (.aload_n 0, 1) := by decide +kernel
theorem dX6_cure_94 : decode cX6_cure 94 = .ok (.ldc 158, 2) := by decide +kernel
theorem dX6_cure_96 : decode cX6_cure 96 = .ok (.invokevirtual 59, 3) := by decide +kernel
theorem dX6_cure_99 : decode cX6_cure 99 = .ok (.ireturn, 1) := by decide +kernel
theorem dX6_mostAgreed_0 : decode cX6_mostAgreed 0 = .ok (.bipush 7, 2) := by decide +kernel
theorem dX6_mostAgreed_2 : decode cX6_mostAgreed 2 = .ok (.iconst 5, 1) := by decide +kernel
theorem dX6_mostAgreed_3 : decode cX6_mostAgreed 3 = .ok (.iload_n 1, 1) := by decide +kernel
theorem dX6_mostAgreed_4 : decode cX6_mostAgreed 4 = .ok (.imul, 1) := by decide +kernel
theorem dX6_mostAgreed_5 : decode cX6_mostAgreed 5 = .ok (.iadd, 1) := by decide +kernel
theorem dX6_mostAgreed_6 : decode cX6_mostAgreed 6 = .ok (.iload_n 2, 1) := by decide +kernel
theorem dX6_mostAgreed_7 : decode cX6_mostAgreed 7 = .ok (.iadd, 1) := by decide +kernel
theorem dX6_mostAgreed_8 : decode cX6_mostAgreed 8 = .ok (.istore 5, 2) := by decide +kernel
theorem dX6_mostAgreed_10 : decode cX6_mostAgreed 10 = .ok (.aload_n 0, 1) := by decide +kernel
theorem dX6_mostAgreed_11 : decode cX6_mostAgreed 11 = .ok (.getfield 7, 3) := by decide +kernel
theorem dX6_mostAgreed_14 : decode cX6_mostAgreed 14 = .ok (.iload 5, 2) := by decide +kernel
theorem dX6_mostAgreed_16 : decode cX6_mostAgreed 16 = .ok (.iaload, 1) := by decide +kernel
theorem dX6_mostAgreed_17 : decode cX6_mostAgreed 17 = .ok (.istore 6, 2) := by decide +kernel
theorem dX6_mostAgreed_19 : decode cX6_mostAgreed 19 = .ok (.iconst 0, 1) := by decide +kernel
theorem dX6_mostAgreed_20 : decode cX6_mostAgreed 20 = .ok (.istore 7, 2) := by decide +kernel
theorem dX6_mostAgreed_22 : decode cX6_mostAgreed 22 = .ok (.iconst (-1), 1) := by decide +kernel
theorem dX6_mostAgreed_23 : decode cX6_mostAgreed 23 = .ok (.istore 8, 2) := by decide +kernel
theorem dX6_mostAgreed_25 : decode cX6_mostAgreed 25 = .ok (.iconst 0, 1) := by decide +kernel
theorem dX6_mostAgreed_26 : decode cX6_mostAgreed 26 = .ok (.istore 9, 2) := by decide +kernel
theorem dX6_mostAgreed_28 : decode cX6_mostAgreed 28 = .ok (.iload 9, 2) := by decide +kernel
theorem dX6_mostAgreed_30 : decode cX6_mostAgreed 30 = .ok (.iload_n 3, 1) := by decide +kernel
theorem dX6_mostAgreed_31 : decode cX6_mostAgreed 31 = .ok (.if_icmp .ge 65, 3) := by decide +kernel
theorem dX6_mostAgreed_34 : decode cX6_mostAgreed 34 = .ok (.aload_n 0, 1) := by decide +kernel
theorem dX6_mostAgreed_35 : decode cX6_mostAgreed 35 = .ok (.getfield 7, 3) := by decide +kernel
theorem dX6_mostAgreed_38 : decode cX6_mostAgreed 38 = .ok (.iload 5, 2) := by decide +kernel
theorem dX6_mostAgreed_40 : decode cX6_mostAgreed 40 = .ok (.iload 9, 2) := by decide +kernel
theorem dX6_mostAgreed_42 : decode cX6_mostAgreed 42 = .ok (.iastore, 1) := by decide +kernel
theorem dX6_mostAgreed_43 : decode cX6_mostAgreed 43 = .ok (.aload_n 0, 1) := by decide +kernel
theorem dX6_mostAgreed_44 : decode cX6_mostAgreed 44 = .ok (.iload_n 1, 1) := by decide +kernel
theorem dX6_mostAgreed_45 : decode cX6_mostAgreed 45 = .ok (.aload_n 0, 1) := by decide +kernel
theorem dX6_mostAgreed_46 : decode cX6_mostAgreed 46 = .ok (.getfield 7, 3) := by decide +kernel
theorem dX6_mostAgreed_49 : decode cX6_mostAgreed 49 = .ok (.iconst 4, 1) := by decide +kernel
theorem dX6_mostAgreed_50 : decode cX6_mostAgreed 50 = .ok (.iaload, 1) := by decide +kernel
theorem dX6_mostAgreed_51 : decode cX6_mostAgreed 51 = .ok (.iload 4, 2) := by decide +kernel
theorem dX6_mostAgreed_53 : decode cX6_mostAgreed 53 = .ok (.invokevirtual 166, 3) := by decide +kernel
theorem dX6_mostAgreed_56 : decode cX6_mostAgreed 56 = .ok (.istore 10, 2) := by decide +kernel
theorem dX6_mostAgreed_58 : decode cX6_mostAgreed 58 = .ok (.iload 10, 2) := by decide +kernel
theorem dX6_mostAgreed_60 : decode cX6_mostAgreed 60 = .ok (.iload 8, 2) := by decide +kernel
theorem dX6_mostAgreed_62 : decode cX6_mostAgreed 62 = .ok (.if_icmp .le 8, 3) := by decide +kernel
theorem dX6_mostAgreed_65 : decode cX6_mostAgreed 65 = .ok (.iload 9, 2) := by decide +kernel
theorem dX6_mostAgreed_67 : decode cX6_mostAgreed 67 = .ok (.goto 5, 3) := by decide +kernel
theorem dX6_mostAgreed_70 : decode cX6_mostAgreed 70 = .ok (.iload 7, 2) := by decide +kernel
theorem dX6_mostAgreed_72 : decode cX6_mostAgreed 72 = .ok (.istore 7, 2) := by decide +kernel
theorem dX6_mostAgreed_74 : decode cX6_mostAgreed 74 = .ok (.iload 10, 2) := by decide +kernel
theorem dX6_mostAgreed_76 : decode cX6_mostAgreed 76 = .ok (.iload 8, 2) := by decide +kernel
theorem dX6_mostAgreed_78 : decode cX6_mostAgreed 78 = .ok (.if_icmp .le 8, 3) := by decide +kernel
theorem dX6_mostAgreed_81 : decode cX6_mostAgreed 81 = .ok (.iload 10, 2) := by decide +kernel
theorem dX6_mostAgreed_83 : decode cX6_mostAgreed 83 = .ok (.goto 5, 3) := by decide +kernel
theorem dX6_mostAgreed_86 : decode cX6_mostAgreed 86 = .ok (.iload 8, 2) := by decide +kernel
theorem dX6_mostAgreed_88 : decode cX6_mostAgreed 88 = .ok (.istore 8, 2) := by decide +kernel
theorem dX6_mostAgreed_90 : decode cX6_mostAgreed 90 = .ok (.iinc 9 1, 3) := by decide +kernel
theorem dX6_mostAgreed_93 : decode cX6_mostAgreed 93 = .ok (.goto (-65), 3) := by decide +kernel
theorem dX6_mostAgreed_96 : decode cX6_mostAgreed 96 = .ok (.aload_n 0, 1) := by decide +kernel
theorem dX6_mostAgreed_97 : decode cX6_mostAgreed 97 = .ok (.getfield 7, 3) := by decide +kernel
theorem dX6_mostAgreed_100 : decode cX6_mostAgreed 100 = .ok (.iload 5, 2) := by decide +kernel
theorem dX6_mostAgreed_102 : decode cX6_mostAgreed 102 = .ok (.iload 6, 2) := by decide +kernel
theorem dX6_mostAgreed_104 : decode cX6_mostAgreed 104 = .ok (.iastore, 1) := by decide +kernel
theorem dX6_mostAgreed_105 : decode cX6_mostAgreed 105 = .ok (.iload 7, 2) := by decide +kernel
theorem dX6_mostAgreed_107 : decode cX6_mostAgreed 107 = .ok (.ireturn, 1) := by decide +kernel
theorem dX6_kind_0 : decode cX6_kind 0 = .ok (.aload_n 0, 1) := by decide +kernel
theorem dX6_kind_1 : decode cX6_kind 1 = .ok (.iload_n 1, 1) := by decide +kernel
theorem dX6_kind_2 : decode cX6_kind 2 = .ok (.invokevirtual 46, 3) := by decide +kernel
theorem dX6_kind_5 : decode cX6_kind 5 = .ok (.ifCond .eq 15, 3) := by decide +kernel
theorem dX6_kind_8 : decode cX6_kind 8 = .ok (.iload_n 2, 1) := by decide +kernel
theorem dX6_kind_9 : decode cX6_kind 9 = .ok (.i2l, 1) := by decide +kernel
theorem dX6_kind_10 : decode cX6_kind 10 = .ok (.lconst 1, 1) := by decide +kernel
theorem dX6_kind_11 : decode cX6_kind 11 = .ok (.ldc2_w 133, 3) := by decide +kernel
theorem dX6_kind_14 : decode cX6_kind 14 = .ok (.invokestatic 42, 3) := by decide +kernel
theorem dX6_kind_17 : decode cX6_kind 17 = .ok (.ifCond .ne 10, 3) := by decide +kernel
theorem dX6_kind_20 : decode cX6_kind 20 = .ok (.aload_n 0, 1) := by decide +kernel
theorem dX6_kind_21 : decode cX6_kind 21 = .ok (.ldc 41, 2) := by decide +kernel
theorem dX6_kind_23 : decode cX6_kind 23 = .ok (.invokevirtual 59, 3) := by decide +kernel
theorem dX6_kind_26 : decode cX6_kind 26 = .ok (.ireturn, 1) := by decide +kernel
theorem dX6_kind_27 : decode cX6_kind 27 = .ok (.aload_n 0, 1) := by decide +kernel
theorem dX6_kind_28 : decode cX6_kind 28 = .ok (.aload_n 0, 1) := by decide +kernel
theorem dX6_kind_29 : decode cX6_kind 29 = .ok (.getfield 7, 3) := by decide +kernel
theorem dX6_kind_32 : decode cX6_kind 32 = .ok (.iconst 4, 1) := by decide +kernel
theorem dX6_kind_33 : decode cX6_kind 33 = .ok (.iaload, 1) := by decide +kernel
theorem dX6_kind_34 : decode cX6_kind 34 = .ok (.invokevirtual 46, 3) := by decide +kernel
theorem dX6_kind_37 : decode cX6_kind 37 = .ok (.ifCond .eq 15, 3) := by decide +kernel
theorem dX6_kind_40 : decode cX6_kind 40 = .ok (.aload_n 0, 1) := by decide +kernel
theorem dX6_kind_41 : decode cX6_kind 41 = .ok (.iload_n 1, 1) := by decide +kernel
theorem dX6_kind_42 : decode cX6_kind 42 = .ok (.iconst 0, 1) := by decide +kernel
theorem dX6_kind_43 : decode cX6_kind 43 = .ok (.bipush 6, 2) := by decide +kernel
theorem dX6_kind_45 : decode cX6_kind 45 = .ok (.iload_n 2, 1) := by decide +kernel
theorem dX6_kind_46 : decode cX6_kind 46 = .ok (.invokevirtual 178, 3) := by decide +kernel
theorem dX6_kind_49 : decode cX6_kind 49 = .ok (.goto 9, 3) := by decide +kernel
theorem dX6_kind_52 : decode cX6_kind 52 = .ok (.aload_n 0, 1) := by decide +kernel
theorem dX6_kind_53 : decode cX6_kind 53 = .ok (.ldc 121, 2) := by decide +kernel
theorem dX6_kind_55 : decode cX6_kind 55 = .ok (.invokevirtual 59, 3) := by decide +kernel
theorem dX6_kind_58 : decode cX6_kind 58 = .ok (.ireturn, 1) := by decide +kernel
theorem dX6_begin_0 : decode cX6_begin 0 = .ok (.aload_n 0, 1) := by decide +kernel
theorem dX6_begin_1 : decode cX6_begin 1 = .ok (.iload_n 1, 1) := by decide +kernel
theorem dX6_begin_2 : decode cX6_begin 2 = .ok (.invokevirtual 46, 3) := by decide +kernel
theorem dX6_begin_5 : decode cX6_begin 5 = .ok (.ifCond .eq 15, 3) := by decide +kernel
theorem dX6_begin_8 : decode cX6_begin 8 = .ok (.iload_n 2, 1) := by decide +kernel
theorem dX6_begin_9 : decode cX6_begin 9 = .ok (.i2l, 1) := by decide +kernel
theorem dX6_begin_10 : decode cX6_begin 10 = .ok (.lconst 1, 1) := by decide +kernel
theorem dX6_begin_11 : decode cX6_begin 11 = .ok (.ldc2_w 176, 3) := by decide +kernel
theorem dX6_begin_14 : decode cX6_begin 14 = .ok (.invokestatic 42, 3) := by decide +kernel
theorem dX6_begin_17 : decode cX6_begin 17 = .ok (.ifCond .ne 10, 3) := by decide +kernel
theorem dX6_begin_20 : decode cX6_begin 20 = .ok (.aload_n 0, 1) := by decide +kernel
theorem dX6_begin_21 : decode cX6_begin 21 = .ok (.ldc 41, 2) := by decide +kernel
theorem dX6_begin_23 : decode cX6_begin 23 = .ok (.invokevirtual 59, 3) := by decide +kernel
theorem dX6_begin_26 : decode cX6_begin 26 = .ok (.ireturn, 1) := by decide +kernel
theorem dX6_begin_27 : decode cX6_begin 27 = .ok (.aload_n 0, 1) := by decide +kernel
theorem dX6_begin_28 : decode cX6_begin 28 = .ok (.aload_n 0, 1) := by decide +kernel
theorem dX6_begin_29 : decode cX6_begin 29 = .ok (.getfield 7, 3) := by decide +kernel
theorem dX6_begin_32 : decode cX6_begin 32 = .ok (.iconst 4, 1) := by decide +kernel
theorem dX6_begin_33 : decode cX6_begin 33 = .ok (.iaload, 1) := by decide +kernel
theorem dX6_begin_34 : decode cX6_begin 34 = .ok (.invokevirtual 46, 3) := by decide +kernel
theorem dX6_begin_37 : decode cX6_begin 37 = .ok (.ifCond .eq 15, 3) := by decide +kernel
theorem dX6_begin_40 : decode cX6_begin 40 = .ok (.aload_n 0, 1) := by decide +kernel
theorem dX6_begin_41 : decode cX6_begin 41 = .ok (.iload_n 1, 1) := by decide +kernel
theorem dX6_begin_42 : decode cX6_begin 42 = .ok (.iconst 1, 1) := by decide +kernel
theorem dX6_begin_43 : decode cX6_begin 43 = .ok (.bipush 100, 2) := by decide +kernel
theorem dX6_begin_45 : decode cX6_begin 45 = .ok (.iload_n 2, 1) := by decide +kernel
theorem dX6_begin_46 : decode cX6_begin 46 = .ok (.invokevirtual 178, 3) := by decide +kernel
theorem dX6_begin_49 : decode cX6_begin 49 = .ok (.goto 9, 3) := by decide +kernel
theorem dX6_begin_52 : decode cX6_begin 52 = .ok (.aload_n 0, 1) := by decide +kernel
theorem dX6_begin_53 : decode cX6_begin 53 = .ok (.ldc 121, 2) := by decide +kernel
theorem dX6_begin_55 : decode cX6_begin 55 = .ok (.invokevirtual 59, 3) := by decide +kernel
theorem dX6_begin_58 : decode cX6_begin 58 = .ok (.ireturn, 1) := by decide +kernel
theorem dX6_power_0 : decode cX6_power 0 = .ok (.iload_n 1, 1) := by decide +kernel
theorem dX6_power_1 : decode cX6_power 1 = .ok (.i2l, 1) := by decide +kernel
theorem dX6_power_2 : decode cX6_power 2 = .ok (.lconst 1, 1) := by decide +kernel
theorem dX6_power_3 : decode cX6_power 3 = .ok (.ldc2_w 176, 3) := by decide +kernel
theorem dX6_power_6 : decode cX6_power 6 = .ok (.invokestatic 42, 3) := by decide +kernel
theorem dX6_power_9 : decode cX6_power 9 = .ok (.ifCond .ne 10, 3) := by decide +kernel
theorem dX6_power_12 : decode cX6_power 12 = .ok (.aload_n 0, 1) := by decide +kernel
theorem dX6_power_13 : decode cX6_power 13 = .ok (.ldc 41, 2) := by decide +kernel
theorem dX6_power_15 : decode cX6_power 15 = .ok (.invokevirtual 59, 3) := by decide +kernel
theorem dX6_power_18 : decode cX6_power 18 = .ok (.ireturn, 1) := by decide +kernel
theorem dX6_power_19 : decode cX6_power 19 = .ok (.aload_n 0, 1) := by decide +kernel
theorem dX6_power_20 : decode cX6_power 20 = .ok (.getfield 7, 3) := by decide +kernel
theorem dX6_power_23 : decode cX6_power 23 = .ok (.iconst 3, 1) := by decide +kernel
theorem dX6_power_24 : decode cX6_power 24 = .ok (.iaload, 1) := by decide +kernel
theorem dX6_power_25 : decode cX6_power 25 = .ok (.istore_n 2, 1) := by decide +kernel
theorem dX6_power_26 : decode cX6_power 26 = .ok (.iconst 0, 1) := by decide +kernel
theorem dX6_power_27 : decode cX6_power 27 = .ok (.istore_n 3, 1) := by decide +kernel
theorem dX6_power_28 : decode cX6_power 28 = .ok (.iconst (-1), 1) := by decide +kernel
theorem dX6_power_29 : decode cX6_power 29 = .ok (.istore 4, 2) := by decide +kernel
theorem dX6_power_31 : decode cX6_power 31 = .ok (.iconst 1, 1) := by decide +kernel
theorem dX6_power_32 : decode cX6_power 32 = .ok (.istore 5, 2) := by decide +kernel
theorem dX6_power_34 : decode cX6_power 34 = .ok (.iload 5, 2) := by decide +kernel
theorem dX6_power_36 : decode cX6_power 36 = .ok (.bipush 50, 2) := by decide +kernel
theorem dX6_power_38 : decode cX6_power 38 = .ok (.if_icmp .gt 69, 3) := by decide +kernel
theorem dX6_power_41 : decode cX6_power 41 = .ok (.aload_n 0, 1) := by decide +kernel
theorem dX6_power_42 : decode cX6_power 42 = .ok (.getfield 7, 3) := by decide +kernel
theorem dX6_power_45 : decode cX6_power 45 = .ok (.iconst 3, 1) := by decide +kernel
theorem dX6_power_46 : decode cX6_power 46 = .ok (.iload 5, 2) := by decide +kernel
theorem dX6_power_48 : decode cX6_power 48 = .ok (.iastore, 1) := by decide +kernel
theorem dX6_power_49 : decode cX6_power 49 = .ok (.aload_n 0, 1) := by decide +kernel
theorem dX6_power_50 : decode cX6_power 50 = .ok (.invokevirtual 149, 3) := by decide +kernel
theorem dX6_power_53 : decode cX6_power 53 = .ok (.aload_n 0, 1) := by decide +kernel
theorem dX6_power_54 : decode cX6_power 54 = .ok (.iload_n 1, 1) := by decide +kernel
theorem dX6_power_55 : decode cX6_power 55 = .ok (.invokevirtual 136, 3) := by decide +kernel
theorem dX6_power_58 : decode cX6_power 58 = .ok (.aload_n 0, 1) := by decide +kernel
theorem dX6_power_59 : decode cX6_power 59 = .ok (.aload_n 0, 1) := by decide +kernel
theorem dX6_power_60 : decode cX6_power 60 = .ok (.invokevirtual 139, 3) := by decide +kernel
theorem dX6_power_63 : decode cX6_power 63 = .ok (.invokestatic 143, 3) := by decide +kernel
theorem dX6_power_66 : decode cX6_power 66 = .ok (.invokevirtual 152, 3) := by decide +kernel
theorem dX6_power_69 : decode cX6_power 69 = .ok (.istore 6, 2) := by decide +kernel
theorem dX6_power_71 : decode cX6_power 71 = .ok (.iload 6, 2) := by decide +kernel
theorem dX6_power_73 : decode cX6_power 73 = .ok (.iload 4, 2) := by decide +kernel
theorem dX6_power_75 : decode cX6_power 75 = .ok (.if_icmp .le 8, 3) := by decide +kernel
theorem dX6_power_78 : decode cX6_power 78 = .ok (.iload 5, 2) := by decide +kernel
theorem dX6_power_80 : decode cX6_power 80 = .ok (.goto 4, 3) := by decide +kernel
theorem dX6_power_83 : decode cX6_power 83 = .ok (.iload_n 3, 1) := by decide +kernel
theorem dX6_power_84 : decode cX6_power 84 = .ok (.istore_n 3, 1) := by decide +kernel
theorem dX6_power_85 : decode cX6_power 85 = .ok (.iload 6, 2) := by decide +kernel
theorem dX6_power_87 : decode cX6_power 87 = .ok (.iload 4, 2) := by decide +kernel
theorem dX6_power_89 : decode cX6_power 89 = .ok (.if_icmp .le 8, 3) := by decide +kernel
theorem dX6_power_92 : decode cX6_power 92 = .ok (.iload 6, 2) := by decide +kernel
theorem dX6_power_94 : decode cX6_power 94 = .ok (.goto 5, 3) := by decide +kernel
theorem dX6_power_97 : decode cX6_power 97 = .ok (.iload 4, 2) := by decide +kernel
theorem dX6_power_99 : decode cX6_power 99 = .ok (.istore 4, 2) := by decide +kernel
theorem dX6_power_101 : decode cX6_power 101 = .ok (.iinc 5 1, 3) := by decide +kernel
theorem dX6_power_104 : decode cX6_power 104 = .ok (.goto (-70), 3) := by decide +kernel
theorem dX6_power_107 : decode cX6_power 107 = .ok (.aload_n 0, 1) := by decide +kernel
theorem dX6_power_108 : decode cX6_power 108 = .ok (.getfield 7, 3) := by decide +kernel
theorem dX6_power_111 : decode cX6_power 111 = .ok (.iconst 3, 1) := by decide +kernel
theorem dX6_power_112 : decode cX6_power 112 = .ok (.iload_n 2, 1) := by decide +kernel
theorem dX6_power_113 : decode cX6_power 113 = .ok (.iastore, 1) := by decide +kernel
theorem dX6_power_114 : decode cX6_power 114 = .ok (.iload_n 3, 1) := by decide +kernel
theorem dX6_power_115 : decode cX6_power 115 = .ok (.ireturn, 1) := by decide +kernel
theorem dX6_feed_0 : decode cX6_feed 0 = .ok (.iload_n 2, 1) := by decide +kernel
theorem dX6_feed_1 : decode cX6_feed 1 = .ok (.i2l, 1) := by decide +kernel
theorem dX6_feed_2 : decode cX6_feed 2 = .ok (.lconst 1, 1) := by decide +kernel
theorem dX6_feed_3 : decode cX6_feed 3 = .ok (.ldc2_w 67, 3) := by decide +kernel
theorem dX6_feed_6 : decode cX6_feed 6 = .ok (.invokestatic 42, 3) := by decide +kernel
theorem dX6_feed_9 : decode cX6_feed 9 = .ok (.ifCond .ne 10, 3) := by decide +kernel
theorem dX6_feed_12 : decode cX6_feed 12 = .ok (.aload_n 0, 1) := by decide +kernel
theorem dX6_feed_13 : decode cX6_feed 13 = .ok (.ldc 41, 2) := by decide +kernel
theorem dX6_feed_15 : decode cX6_feed 15 = .ok (.invokevirtual 59, 3) := by decide +kernel
theorem dX6_feed_18 : decode cX6_feed 18 = .ok (.ireturn, 1) := by decide +kernel
theorem dX6_feed_19 : decode cX6_feed 19 = .ok (.aload_n 0, 1) := by decide +kernel
theorem dX6_feed_20 : decode cX6_feed 20 = .ok (.getfield 182, 3) := by decide +kernel
theorem dX6_feed_23 : decode cX6_feed 23 = .ok (.iload_n 2, 1) := by decide +kernel
theorem dX6_feed_24 : decode cX6_feed 24 = .ok (.iadd, 1) := by decide +kernel
theorem dX6_feed_25 : decode cX6_feed 25 = .ok (.bipush 120, 2) := by decide +kernel
theorem dX6_feed_27 : decode cX6_feed 27 = .ok (.if_icmp .le 10, 3) := by decide +kernel
theorem dX6_feed_30 : decode cX6_feed 30 = .ok (.aload_n 0, 1) := by decide +kernel
theorem dX6_feed_31 : decode cX6_feed 31 = .ok (.ldc 63, 2) := by decide +kernel
theorem dX6_feed_33 : decode cX6_feed 33 = .ok (.invokevirtual 59, 3) := by decide +kernel
theorem dX6_feed_36 : decode cX6_feed 36 = .ok (.ireturn, 1) := by decide +kernel
theorem dX6_feed_37 : decode cX6_feed 37 = .ok (.iload_n 2, 1) := by decide +kernel
theorem dX6_feed_38 : decode cX6_feed 38 = .ok (.iconst 1, 1) := by decide +kernel
theorem dX6_feed_39 : decode cX6_feed 39 = .ok (.isub, 1) := by decide +kernel
theorem dX6_feed_40 : decode cX6_feed 40 = .ok (.istore_n 3, 1) := by decide +kernel
theorem dX6_feed_41 : decode cX6_feed 41 = .ok (.iload_n 3, 1) := by decide +kernel
theorem dX6_feed_42 : decode cX6_feed 42 = .ok (.ifCond .lt 38, 3) := by decide +kernel
theorem dX6_feed_45 : decode cX6_feed 45 = .ok (.aload_n 0, 1) := by decide +kernel
theorem dX6_feed_46 : decode cX6_feed 46 = .ok (.getfield 25, 3) := by decide +kernel
theorem dX6_feed_49 : decode cX6_feed 49 = .ok (.aload_n 0, 1) := by decide +kernel
theorem dX6_feed_50 : decode cX6_feed 50 = .ok (.getfield 182, 3) := by decide +kernel
theorem dX6_feed_53 : decode cX6_feed 53 = .ok (.iload_n 1, 1) := by decide +kernel
theorem dX6_feed_54 : decode cX6_feed 54 = .ok (.bipush 8, 2) := by decide +kernel
theorem dX6_feed_56 : decode cX6_feed 56 = .ok (.iload_n 3, 1) := by decide +kernel
theorem dX6_feed_57 : decode cX6_feed 57 = .ok (.imul, 1) := by decide +kernel
theorem dX6_feed_58 : decode cX6_feed 58 = .ok (.ishr, 1) := by decide +kernel
theorem dX6_feed_59 : decode cX6_feed 59 = .ok (.sipush 255, 3) := by decide +kernel
theorem dX6_feed_62 : decode cX6_feed 62 = .ok (.iand, 1) := by decide +kernel
theorem dX6_feed_63 : decode cX6_feed 63 = .ok (.iastore, 1) := by decide +kernel
theorem dX6_feed_64 : decode cX6_feed 64 = .ok (.aload_n 0, 1) := by decide +kernel
theorem dX6_feed_65 : decode cX6_feed 65 = .ok (.dup, 1) := by decide +kernel
theorem dX6_feed_66 : decode cX6_feed 66 = .ok (.getfield 182, 3) := by decide +kernel
theorem dX6_feed_69 : decode cX6_feed 69 = .ok (.iconst 1, 1) := by decide +kernel
theorem dX6_feed_70 : decode cX6_feed 70 = .ok (.iadd, 1) := by decide +kernel
theorem dX6_feed_71 : decode cX6_feed 71 = .ok (.putfield 182, 3) := by decide +kernel
theorem dX6_feed_74 : decode cX6_feed 74 = .ok (.iinc 3 (-1), 3) := by decide +kernel
theorem dX6_feed_77 : decode cX6_feed 77 = .ok (.goto (-36), 3) := by decide +kernel
theorem dX6_feed_80 : decode cX6_feed 80 = .ok (.aload_n 0, 1) := by decide +kernel
theorem dX6_feed_81 : decode cX6_feed 81 = .ok (.getfield 182, 3) := by decide +kernel
theorem dX6_feed_84 : decode cX6_feed 84 = .ok (.ireturn, 1) := by decide +kernel
theorem dX6_wipe_0 : decode cX6_wipe 0 = .ok (.aload_n 0, 1) := by decide +kernel
theorem dX6_wipe_1 : decode cX6_wipe 1 = .ok (.getfield 182, 3) := by decide +kernel
theorem dX6_wipe_4 : decode cX6_wipe 4 = .ok (.istore_n 1, 1) := by decide +kernel
theorem dX6_wipe_5 : decode cX6_wipe 5 = .ok (.aload_n 0, 1) := by decide +kernel
theorem dX6_wipe_6 : decode cX6_wipe 6 = .ok (.iconst 0, 1) := by decide +kernel
theorem dX6_wipe_7 : decode cX6_wipe 7 = .ok (.putfield 182, 3) := by decide +kernel
theorem dX6_wipe_10 : decode cX6_wipe 10 = .ok (.iload_n 1, 1) := by decide +kernel
theorem dX6_wipe_11 : decode cX6_wipe 11 = .ok (.ireturn, 1) := by decide +kernel
theorem dX6_byteAt_0 : decode cX6_byteAt 0 = .ok (.iload_n 1, 1) := by decide +kernel
theorem dX6_byteAt_1 : decode cX6_byteAt 1 = .ok (.aload_n 0, 1) := by decide +kernel
theorem dX6_byteAt_2 : decode cX6_byteAt 2 = .ok (.getfield 182, 3) := by decide +kernel
theorem dX6_byteAt_5 : decode cX6_byteAt 5 = .ok (.if_icmp .ge 12, 3) := by decide +kernel
theorem dX6_byteAt_8 : decode cX6_byteAt 8 = .ok (.aload_n 0, 1) := by decide +kernel
theorem dX6_byteAt_9 : decode cX6_byteAt 9 = .ok (.getfield 25, 3) := by decide +kernel
theorem dX6_byteAt_12 : decode cX6_byteAt 12 = .ok (.iload_n 1, 1) := by decide +kernel
theorem dX6_byteAt_13 : decode cX6_byteAt 13 = .ok (.iaload, 1) := by decide +kernel
theorem dX6_byteAt_14 : decode cX6_byteAt 14 = .ok (.goto 4, 3) := by decide +kernel
theorem dX6_byteAt_17 : decode cX6_byteAt 17 = .ok (.iconst (-1), 1) := by decide +kernel
theorem dX6_byteAt_18 : decode cX6_byteAt 18 = .ok (.ireturn, 1) := by decide +kernel
theorem dX6_isLetter_0 : decode cX6_isLetter 0 = .ok (.iload_n 0, 1) := by decide +kernel
theorem dX6_isLetter_1 : decode cX6_isLetter 1 = .ok (.i2l, 1) := by decide +kernel
theorem dX6_isLetter_2 : decode cX6_isLetter 2 = .ok (.ldc2_w 186, 3) := by decide +kernel
theorem dX6_isLetter_5 : decode cX6_isLetter 5 = .ok (.ldc2_w 188, 3) := by decide +kernel
theorem dX6_isLetter_8 : decode cX6_isLetter 8 = .ok (.invokestatic 42, 3) := by decide +kernel
theorem dX6_isLetter_11 : decode cX6_isLetter 11 = .ok (.ireturn, 1) := by decide +kernel
theorem dX6_isDigit_0 : decode cX6_isDigit 0 = .ok (.iload_n 0, 1) := by decide +kernel
theorem dX6_isDigit_1 : decode cX6_isDigit 1 = .ok (.i2l, 1) := by decide +kernel
theorem dX6_isDigit_2 : decode cX6_isDigit 2 = .ok (.ldc2_w 190, 3) := by decide +kernel
theorem dX6_isDigit_5 : decode cX6_isDigit 5 = .ok (.ldc2_w 192, 3) := by decide +kernel
theorem dX6_isDigit_8 : decode cX6_isDigit 8 = .ok (.invokestatic 42, 3) := by decide +kernel
theorem dX6_isDigit_11 : decode cX6_isDigit 11 = .ok (.ireturn, 1) := by decide +kernel
theorem dX6_token_0 : decode cX6_token 0 = .ok (.aload_n 0, 1) := by decide +kernel
theorem dX6_token_1 : decode cX6_token 1 = .ok (.aload_n 0, 1) := by decide +kernel
theorem dX6_token_2 : decode cX6_token 2 = .ok (.getfield 194, 3) := by decide +kernel
theorem dX6_token_5 : decode cX6_token 5 = .ok (.putfield 197, 3) := by decide +kernel
theorem dX6_token_8 : decode cX6_token 8 = .ok (.aload_n 0, 1) := by decide +kernel
theorem dX6_token_9 : decode cX6_token 9 = .ok (.aload_n 0, 1) := by decide +kernel
theorem dX6_token_10 : decode cX6_token 10 = .ok (.getfield 197, 3) := by decide +kernel
theorem dX6_token_13 : decode cX6_token 13 = .ok (.invokevirtual 200, 3) := by decide +kernel
theorem dX6_token_16 : decode cX6_token 16 = .ok (.bipush 32, 2) := by decide +kernel
theorem dX6_token_18 : decode cX6_token 18 = .ok (.if_icmp .ne 16, 3) := by decide +kernel
theorem dX6_token_21 : decode cX6_token 21 = .ok (.aload_n 0, 1) := by decide +kernel
theorem dX6_token_22 : decode cX6_token 22 = .ok (.dup, 1) := by decide +kernel
theorem dX6_token_23 : decode cX6_token 23 = .ok (.getfield 197, 3) := by decide +kernel
theorem dX6_token_26 : decode cX6_token 26 = .ok (.iconst 1, 1) := by decide +kernel
theorem dX6_token_27 : decode cX6_token 27 = .ok (.iadd, 1) := by decide +kernel
theorem dX6_token_28 : decode cX6_token 28 = .ok (.putfield 197, 3) := by decide +kernel
theorem dX6_token_31 : decode cX6_token 31 = .ok (.goto (-23), 3) := by decide +kernel
theorem dX6_token_34 : decode cX6_token 34 = .ok (.aload_n 0, 1) := by decide +kernel
theorem dX6_token_35 : decode cX6_token 35 = .ok (.aload_n 0, 1) := by decide +kernel
theorem dX6_token_36 : decode cX6_token 36 = .ok (.getfield 197, 3) := by decide +kernel
theorem dX6_token_39 : decode cX6_token 39 = .ok (.invokevirtual 200, 3) := by decide +kernel
theorem dX6_token_42 : decode cX6_token 42 = .ok (.invokestatic 203, 3) := by decide +kernel
theorem dX6_token_45 : decode cX6_token 45 = .ok (.istore_n 1, 1) := by decide +kernel
theorem dX6_token_46 : decode cX6_token 46 = .ok (.aload_n 0, 1) := by decide +kernel
theorem dX6_token_47 : decode cX6_token 47 = .ok (.aload_n 0, 1) := by decide +kernel
theorem dX6_token_48 : decode cX6_token 48 = .ok (.getfield 197, 3) := by decide +kernel
theorem dX6_token_51 : decode cX6_token 51 = .ok (.invokevirtual 200, 3) := by decide +kernel
theorem dX6_token_54 : decode cX6_token 54 = .ok (.invokestatic 206, 3) := by decide +kernel
theorem dX6_token_57 : decode cX6_token 57 = .ok (.istore_n 2, 1) := by decide +kernel
theorem dX6_token_58 : decode cX6_token 58 = .ok (.aload_n 0, 1) := by decide +kernel
theorem dX6_token_59 : decode cX6_token 59 = .ok (.aload_n 0, 1) := by decide +kernel
theorem dX6_token_60 : decode cX6_token 60 = .ok (.getfield 197, 3) := by decide +kernel
theorem dX6_token_63 : decode cX6_token 63 = .ok (.aload_n 0, 1) := by decide +kernel
theorem dX6_token_64 : decode cX6_token 64 = .ok (.getfield 182, 3) := by decide +kernel
theorem dX6_token_67 : decode cX6_token 67 = .ok (.if_icmp .ge 12, 3) := by decide +kernel
theorem dX6_token_70 : decode cX6_token 70 = .ok (.aload_n 0, 1) := by decide +kernel
theorem dX6_token_71 : decode cX6_token 71 = .ok (.getfield 197, 3) := by decide +kernel
theorem dX6_token_74 : decode cX6_token 74 = .ok (.iconst 1, 1) := by decide +kernel
theorem dX6_token_75 : decode cX6_token 75 = .ok (.iadd, 1) := by decide +kernel
theorem dX6_token_76 : decode cX6_token 76 = .ok (.goto 7, 3) := by decide +kernel
theorem dX6_token_79 : decode cX6_token 79 = .ok (.aload_n 0, 1) := by decide +kernel
theorem dX6_token_80 : decode cX6_token 80 = .ok (.getfield 197, 3) := by decide +kernel
theorem dX6_token_83 : decode cX6_token 83 = .ok (.putfield 194, 3) := by decide +kernel
theorem dX6_token_86 : decode cX6_token 86 = .ok (.iload_n 1, 1) := by decide +kernel
theorem dX6_token_87 : decode cX6_token 87 = .ok (.ifCond .eq 17, 3) := by decide +kernel
theorem dX6_token_90 : decode cX6_token 90 = .ok (.aload_n 0, 1) := by decide +kernel
theorem dX6_token_91 : decode cX6_token 91 = .ok (.aload_n 0, 1) := by decide +kernel
theorem dX6_token_92 : decode cX6_token 92 = .ok (.getfield 194, 3) := by decide +kernel
theorem dX6_token_95 : decode cX6_token 95 = .ok (.invokevirtual 200, 3) := by decide +kernel
theorem dX6_token_98 : decode cX6_token 98 = .ok (.invokestatic 203, 3) := by decide +kernel
theorem dX6_token_101 : decode cX6_token 101 = .ok (.ifCond .ne 21, 3) := by decide +kernel
theorem dX6_token_104 : decode cX6_token 104 = .ok (.iload_n 2, 1) := by decide +kernel
theorem dX6_token_105 : decode cX6_token 105 = .ok (.ifCond .eq 30, 3) := by decide +kernel
theorem dX6_token_108 : decode cX6_token 108 = .ok (.aload_n 0, 1) := by decide +kernel
theorem dX6_token_109 : decode cX6_token 109 = .ok (.aload_n 0, 1) := by decide +kernel
theorem dX6_token_110 : decode cX6_token 110 = .ok (.getfield 194, 3) := by decide +kernel
theorem dX6_token_113 : decode cX6_token 113 = .ok (.invokevirtual 200, 3) := by decide +kernel
theorem dX6_token_116 : decode cX6_token 116 = .ok (.invokestatic 206, 3) := by decide +kernel
theorem dX6_token_119 : decode cX6_token 119 = .ok (.ifCond .eq 16, 3) := by decide +kernel
theorem dX6_token_122 : decode cX6_token 122 = .ok (.aload_n 0, 1) := by decide +kernel
theorem dX6_token_123 : decode cX6_token 123 = .ok (.dup, 1) := by decide +kernel
theorem dX6_token_124 : decode cX6_token 124 = .ok (.getfield 194, 3) := by decide +kernel
theorem dX6_token_127 : decode cX6_token 127 = .ok (.iconst 1, 1) := by decide +kernel
theorem dX6_token_128 : decode cX6_token 128 = .ok (.iadd, 1) := by decide +kernel
theorem dX6_token_129 : decode cX6_token 129 = .ok (.putfield 194, 3) := by decide +kernel
theorem dX6_token_132 : decode cX6_token 132 = .ok (.goto (-46), 3) := by decide +kernel
theorem dX6_token_135 : decode cX6_token 135 = .ok (.return_, 1) := by decide +kernel
theorem dX6_must_0 : decode cX6_must 0 = .ok (.aload_n 0, 1) := by decide +kernel
theorem dX6_must_1 : decode cX6_must 1 = .ok (.aload_n 0, 1) := by decide +kernel
theorem dX6_must_2 : decode cX6_must 2 = .ok (.getfield 209, 3) := by decide +kernel
theorem dX6_must_5 : decode cX6_must 5 = .ok (.ifCond .ne 7, 3) := by decide +kernel
theorem dX6_must_8 : decode cX6_must 8 = .ok (.iload_n 1, 1) := by decide +kernel
theorem dX6_must_9 : decode cX6_must 9 = .ok (.ifCond .ne 7, 3) := by decide +kernel
theorem dX6_must_12 : decode cX6_must 12 = .ok (.iconst 1, 1) := by decide +kernel
theorem dX6_must_13 : decode cX6_must 13 = .ok (.goto 4, 3) := by decide +kernel
theorem dX6_must_16 : decode cX6_must 16 = .ok (.iconst 0, 1) := by decide +kernel
theorem dX6_must_17 : decode cX6_must 17 = .ok (.putfield 209, 3) := by decide +kernel
theorem dX6_must_20 : decode cX6_must 20 = .ok (.aload_n 0, 1) := by decide +kernel
theorem dX6_must_21 : decode cX6_must 21 = .ok (.getfield 209, 3) := by decide +kernel
theorem dX6_must_24 : decode cX6_must 24 = .ok (.ifCond .ne 7, 3) := by decide +kernel
theorem dX6_must_27 : decode cX6_must 27 = .ok (.aload_n 0, 1) := by decide +kernel
theorem dX6_must_28 : decode cX6_must 28 = .ok (.invokevirtual 213, 3) := by decide +kernel
theorem dX6_must_31 : decode cX6_must 31 = .ok (.return_, 1) := by decide +kernel
theorem dX6_word_0 : decode cX6_word 0 = .ok (.lconst 0, 1) := by decide +kernel
theorem dX6_word_1 : decode cX6_word 1 = .ok (.lstore_n 1, 1) := by decide +kernel
theorem dX6_word_2 : decode cX6_word 2 = .ok (.aload_n 0, 1) := by decide +kernel
theorem dX6_word_3 : decode cX6_word 3 = .ok (.getfield 197, 3) := by decide +kernel
theorem dX6_word_6 : decode cX6_word 6 = .ok (.istore_n 3, 1) := by decide +kernel
theorem dX6_word_7 : decode cX6_word 7 = .ok (.iload_n 3, 1) := by decide +kernel
theorem dX6_word_8 : decode cX6_word 8 = .ok (.aload_n 0, 1) := by decide +kernel
theorem dX6_word_9 : decode cX6_word 9 = .ok (.getfield 194, 3) := by decide +kernel
theorem dX6_word_12 : decode cX6_word 12 = .ok (.if_icmp .ge 38, 3) := by decide +kernel
theorem dX6_word_15 : decode cX6_word 15 = .ok (.lload_n 1, 1) := by decide +kernel
theorem dX6_word_16 : decode cX6_word 16 = .ok (.ldc2_w 216, 3) := by decide +kernel
theorem dX6_word_19 : decode cX6_word 19 = .ok (.lcmp, 1) := by decide +kernel
theorem dX6_word_20 : decode cX6_word 20 = .ok (.ifCond .le 7, 3) := by decide +kernel
theorem dX6_word_23 : decode cX6_word 23 = .ok (.lload_n 1, 1) := by decide +kernel
theorem dX6_word_24 : decode cX6_word 24 = .ok (.goto 19, 3) := by decide +kernel
theorem dX6_word_27 : decode cX6_word 27 = .ok (.ldc2_w 218, 3) := by decide +kernel
theorem dX6_word_30 : decode cX6_word 30 = .ok (.lload_n 1, 1) := by decide +kernel
theorem dX6_word_31 : decode cX6_word 31 = .ok (.lmul, 1) := by decide +kernel
theorem dX6_word_32 : decode cX6_word 32 = .ok (.aload_n 0, 1) := by decide +kernel
theorem dX6_word_33 : decode cX6_word 33 = .ok (.getfield 25, 3) := by decide +kernel
theorem dX6_word_36 : decode cX6_word 36 = .ok (.iload_n 3, 1) := by decide +kernel
theorem dX6_word_37 : decode cX6_word 37 = .ok (.iaload, 1) := by decide +kernel
theorem dX6_word_38 : decode cX6_word 38 = .ok (.bipush 96, 2) := by decide +kernel
theorem dX6_word_40 : decode cX6_word 40 = .ok (.isub, 1) := by decide +kernel
theorem dX6_word_41 : decode cX6_word 41 = .ok (.i2l, 1) := by decide +kernel
theorem dX6_word_42 : decode cX6_word 42 = .ok (.ladd, 1) := by decide +kernel
theorem dX6_word_43 : decode cX6_word 43 = .ok (.lstore_n 1, 1) := by decide +kernel
theorem dX6_word_44 : decode cX6_word 44 = .ok (.iinc 3 1, 3) := by decide +kernel
theorem dX6_word_47 : decode cX6_word 47 = .ok (.goto (-40), 3) := by decide +kernel
theorem dX6_word_50 : decode cX6_word 50 = .ok (.aload_n 0, 1) := by decide +kernel
theorem dX6_word_51 : decode cX6_word 51 = .ok (.getfield 209, 3) := by decide +kernel
theorem dX6_word_54 : decode cX6_word 54 = .ok (.ifCond .ne 17, 3) := by decide +kernel
theorem dX6_word_57 : decode cX6_word 57 = .ok (.aload_n 0, 1) := by decide +kernel
theorem dX6_word_58 : decode cX6_word 58 = .ok (.aload_n 0, 1) := by decide +kernel
theorem dX6_word_59 : decode cX6_word 59 = .ok (.getfield 197, 3) := by decide +kernel
theorem dX6_word_62 : decode cX6_word 62 = .ok (.invokevirtual 200, 3) := by decide +kernel
theorem dX6_word_65 : decode cX6_word 65 = .ok (.invokestatic 203, 3) := by decide +kernel
theorem dX6_word_68 : decode cX6_word 68 = .ok (.ifCond .ne 7, 3) := by decide +kernel
theorem dX6_word_71 : decode cX6_word 71 = .ok (.lconst 0, 1) := by decide +kernel
theorem dX6_word_72 : decode cX6_word 72 = .ok (.goto 4, 3) := by decide +kernel
theorem dX6_word_75 : decode cX6_word 75 = .ok (.lload_n 1, 1) := by decide +kernel
theorem dX6_word_76 : decode cX6_word 76 = .ok (.lreturn, 1) := by decide +kernel
theorem dX6_number_0 : decode cX6_number 0 = .ok (.aload_n 0, 1) := by decide +kernel
theorem dX6_number_1 : decode cX6_number 1 = .ok (.getfield 209, 3) := by decide +kernel
theorem dX6_number_4 : decode cX6_number 4 = .ok (.ifCond .eq 4, 3) := by decide +kernel
theorem dX6_number_7 : decode cX6_number 7 = .ok (.return_, 1) := by decide +kernel
theorem dX6_number_8 : decode cX6_number 8 = .ok (.aload_n 0, 1) := by decide +kernel
theorem dX6_number_9 : decode cX6_number 9 = .ok (.aload_n 0, 1) := by decide +kernel
theorem dX6_number_10 : decode cX6_number 10 = .ok (.getfield 197, 3) := by decide +kernel
theorem dX6_number_13 : decode cX6_number 13 = .ok (.invokevirtual 200, 3) := by decide +kernel
theorem dX6_number_16 : decode cX6_number 16 = .ok (.invokestatic 206, 3) := by decide +kernel
theorem dX6_number_19 : decode cX6_number 19 = .ok (.istore_n 3, 1) := by decide +kernel
theorem dX6_number_20 : decode cX6_number 20 = .ok (.iconst 0, 1) := by decide +kernel
theorem dX6_number_21 : decode cX6_number 21 = .ok (.istore 4, 2) := by decide +kernel
theorem dX6_number_23 : decode cX6_number 23 = .ok (.aload_n 0, 1) := by decide +kernel
theorem dX6_number_24 : decode cX6_number 24 = .ok (.getfield 197, 3) := by decide +kernel
theorem dX6_number_27 : decode cX6_number 27 = .ok (.istore 5, 2) := by decide +kernel
theorem dX6_number_29 : decode cX6_number 29 = .ok (.iload 5, 2) := by decide +kernel
theorem dX6_number_31 : decode cX6_number 31 = .ok (.aload_n 0, 1) := by decide +kernel
theorem dX6_number_32 : decode cX6_number 32 = .ok (.getfield 194, 3) := by decide +kernel
theorem dX6_number_35 : decode cX6_number 35 = .ok (.if_icmp .ge 44, 3) := by decide +kernel
theorem dX6_number_38 : decode cX6_number 38 = .ok (.iload_n 3, 1) := by decide +kernel
theorem dX6_number_39 : decode cX6_number 39 = .ok (.ifCond .eq 40, 3) := by decide +kernel
theorem dX6_number_42 : decode cX6_number 42 = .ok (.iload 4, 2) := by decide +kernel
theorem dX6_number_44 : decode cX6_number 44 = .ok (.sipush 9999, 3) := by decide +kernel
theorem dX6_number_47 : decode cX6_number 47 = .ok (.if_icmp .le 8, 3) := by decide +kernel
theorem dX6_number_50 : decode cX6_number 50 = .ok (.iload 4, 2) := by decide +kernel
theorem dX6_number_52 : decode cX6_number 52 = .ok (.goto 19, 3) := by decide +kernel
theorem dX6_number_55 : decode cX6_number 55 = .ok (.bipush 10, 2) := by decide +kernel
theorem dX6_number_57 : decode cX6_number 57 = .ok (.iload 4, 2) := by decide +kernel
theorem dX6_number_59 : decode cX6_number 59 = .ok (.imul, 1) := by decide +kernel
theorem dX6_number_60 : decode cX6_number 60 = .ok (.aload_n 0, 1) := by decide +kernel
theorem dX6_number_61 : decode cX6_number 61 = .ok (.getfield 25, 3) := by decide +kernel
theorem dX6_number_64 : decode cX6_number 64 = .ok (.iload 5, 2) := by decide +kernel
theorem dX6_number_66 : decode cX6_number 66 = .ok (.iaload, 1) := by decide +kernel
theorem dX6_number_67 : decode cX6_number 67 = .ok (.iadd, 1) := by decide +kernel
theorem dX6_number_68 : decode cX6_number 68 = .ok (.bipush 48, 2) := by decide +kernel
theorem dX6_number_70 : decode cX6_number 70 = .ok (.isub, 1) := by decide +kernel
theorem dX6_number_71 : decode cX6_number 71 = .ok (.istore 4, 2) := by decide +kernel
theorem dX6_number_73 : decode cX6_number 73 = .ok (.iinc 5 1, 3) := by decide +kernel
theorem dX6_number_76 : decode cX6_number 76 = .ok (.goto (-47), 3) := by decide +kernel
theorem dX6_number_79 : decode cX6_number 79 = .ok (.aload_n 0, 1) := by decide +kernel
theorem dX6_number_80 : decode cX6_number 80 = .ok (.iload 4, 2) := by decide +kernel
theorem dX6_number_82 : decode cX6_number 82 = .ok (.putfield 220, 3) := by decide +kernel
theorem dX6_number_85 : decode cX6_number 85 = .ok (.aload_n 0, 1) := by decide +kernel
theorem dX6_number_86 : decode cX6_number 86 = .ok (.iload_n 3, 1) := by decide +kernel
theorem dX6_number_87 : decode cX6_number 87 = .ok (.ifCond .eq 20, 3) := by decide +kernel
theorem dX6_number_90 : decode cX6_number 90 = .ok (.iload 4, 2) := by decide +kernel
theorem dX6_number_92 : decode cX6_number 92 = .ok (.i2l, 1) := by decide +kernel
theorem dX6_number_93 : decode cX6_number 93 = .ok (.iload_n 1, 1) := by decide +kernel
theorem dX6_number_94 : decode cX6_number 94 = .ok (.i2l, 1) := by decide +kernel
theorem dX6_number_95 : decode cX6_number 95 = .ok (.iload_n 2, 1) := by decide +kernel
theorem dX6_number_96 : decode cX6_number 96 = .ok (.i2l, 1) := by decide +kernel
theorem dX6_number_97 : decode cX6_number 97 = .ok (.invokestatic 42, 3) := by decide +kernel
theorem dX6_number_100 : decode cX6_number 100 = .ok (.ifCond .eq 7, 3) := by decide +kernel
theorem dX6_number_103 : decode cX6_number 103 = .ok (.iconst 1, 1) := by decide +kernel
theorem dX6_number_104 : decode cX6_number 104 = .ok (.goto 4, 3) := by decide +kernel
theorem dX6_number_107 : decode cX6_number 107 = .ok (.iconst 0, 1) := by decide +kernel
theorem dX6_number_108 : decode cX6_number 108 = .ok (.invokevirtual 223, 3) := by decide +kernel
theorem dX6_number_111 : decode cX6_number 111 = .ok (.return_, 1) := by decide +kernel
theorem dX6_kindHere_0 : decode cX6_kindHere 0 = .ok (.aload_n 0, 1) := by decide +kernel
theorem dX6_kindHere_1 : decode cX6_kindHere 1 = .ok (.invokevirtual 227, 3) := by decide +kernel
theorem dX6_kindHere_4 : decode cX6_kindHere 4 = .ok (.lstore_n 1, 1) := by decide +kernel
theorem dX6_kindHere_5 : decode cX6_kindHere 5 = .ok (.lload_n 1, 1) := by decide +kernel
theorem dX6_kindHere_6 : decode cX6_kindHere 6 = .ok (.ldc2_w 231, 3) := by decide +kernel
theorem dX6_kindHere_9 : decode cX6_kindHere 9 = .ok (.lcmp, 1) := by decide +kernel
theorem dX6_kindHere_10 : decode cX6_kindHere 10 = .ok (.ifCond .ne 7, 3) := by decide +kernel
theorem dX6_kindHere_13 : decode cX6_kindHere 13 = .ok (.iconst 0, 1) := by decide +kernel
theorem dX6_kindHere_14 : decode cX6_kindHere 14 = .ok (.goto 64, 3) := by decide +kernel
theorem dX6_kindHere_17 : decode cX6_kindHere 17 = .ok (.lload_n 1, 1) := by decide +kernel
theorem dX6_kindHere_18 : decode cX6_kindHere 18 = .ok (.ldc2_w 233, 3) := by decide +kernel
theorem dX6_kindHere_21 : decode cX6_kindHere 21 = .ok (.lcmp, 1) := by decide +kernel
theorem dX6_kindHere_22 : decode cX6_kindHere 22 = .ok (.ifCond .ne 7, 3) := by decide +kernel
theorem dX6_kindHere_25 : decode cX6_kindHere 25 = .ok (.iconst 1, 1) := by decide +kernel
theorem dX6_kindHere_26 : decode cX6_kindHere 26 = .ok (.goto 52, 3) := by decide +kernel
theorem dX6_kindHere_29 : decode cX6_kindHere 29 = .ok (.lload_n 1, 1) := by decide +kernel
theorem dX6_kindHere_30 : decode cX6_kindHere 30 = .ok (.ldc2_w 235, 3) := by decide +kernel
theorem dX6_kindHere_33 : decode cX6_kindHere 33 = .ok (.lcmp, 1) := by decide +kernel
theorem dX6_kindHere_34 : decode cX6_kindHere 34 = .ok (.ifCond .ne 7, 3) := by decide +kernel
theorem dX6_kindHere_37 : decode cX6_kindHere 37 = .ok (.iconst 2, 1) := by decide +kernel
theorem dX6_kindHere_38 : decode cX6_kindHere 38 = .ok (.goto 40, 3) := by decide +kernel
theorem dX6_kindHere_41 : decode cX6_kindHere 41 = .ok (.lload_n 1, 1) := by decide +kernel
theorem dX6_kindHere_42 : decode cX6_kindHere 42 = .ok (.ldc2_w 237, 3) := by decide +kernel
theorem dX6_kindHere_45 : decode cX6_kindHere 45 = .ok (.lcmp, 1) := by decide +kernel
theorem dX6_kindHere_46 : decode cX6_kindHere 46 = .ok (.ifCond .ne 7, 3) := by decide +kernel
theorem dX6_kindHere_49 : decode cX6_kindHere 49 = .ok (.iconst 3, 1) := by decide +kernel
theorem dX6_kindHere_50 : decode cX6_kindHere 50 = .ok (.goto 28, 3) := by decide +kernel
theorem dX6_kindHere_53 : decode cX6_kindHere 53 = .ok (.lload_n 1, 1) := by decide +kernel
theorem dX6_kindHere_54 : decode cX6_kindHere 54 = .ok (.ldc2_w 239, 3) := by decide +kernel
theorem dX6_kindHere_57 : decode cX6_kindHere 57 = .ok (.lcmp, 1) := by decide +kernel
theorem dX6_kindHere_58 : decode cX6_kindHere 58 = .ok (.ifCond .ne 7, 3) := by decide +kernel
theorem dX6_kindHere_61 : decode cX6_kindHere 61 = .ok (.iconst 4, 1) := by decide +kernel
theorem dX6_kindHere_62 : decode cX6_kindHere 62 = .ok (.goto 16, 3) := by decide +kernel
theorem dX6_kindHere_65 : decode cX6_kindHere 65 = .ok (.lload_n 1, 1) := by decide +kernel
theorem dX6_kindHere_66 : decode cX6_kindHere 66 = .ok (.ldc2_w 241, 3) := by decide +kernel
theorem dX6_kindHere_69 : decode cX6_kindHere 69 = .ok (.lcmp, 1) := by decide +kernel
theorem dX6_kindHere_70 : decode cX6_kindHere 70 = .ok (.ifCond .ne 7, 3) := by decide +kernel
theorem dX6_kindHere_73 : decode cX6_kindHere 73 = .ok (.iconst 5, 1) := by decide +kernel
theorem dX6_kindHere_74 : decode cX6_kindHere 74 = .ok (.goto 4, 3) := by decide +kernel
theorem dX6_kindHere_77 : decode cX6_kindHere 77 = .ok (.iconst (-1), 1) := by decide +kernel
theorem dX6_kindHere_78 : decode cX6_kindHere 78 = .ok (.ireturn, 1) := by decide +kernel
theorem dX6_partItem_0 : decode cX6_partItem 0 = .ok (.aload_n 0, 1) := by decide +kernel
theorem dX6_partItem_1 : decode cX6_partItem 1 = .ok (.invokevirtual 227, 3) := by decide +kernel
theorem dX6_partItem_4 : decode cX6_partItem 4 = .ok (.lload_n 1, 1) := by decide +kernel
theorem dX6_partItem_5 : decode cX6_partItem 5 = .ok (.lcmp, 1) := by decide +kernel
theorem dX6_partItem_6 : decode cX6_partItem 6 = .ok (.ifCond .ne 61, 3) := by decide +kernel
theorem dX6_partItem_9 : decode cX6_partItem 9 = .ok (.aload_n 0, 1) := by decide +kernel
theorem dX6_partItem_10 : decode cX6_partItem 10 = .ok (.iconst 1, 1) := by decide +kernel
theorem dX6_partItem_11 : decode cX6_partItem 11 = .ok (.invokevirtual 223, 3) := by decide +kernel
theorem dX6_partItem_14 : decode cX6_partItem 14 = .ok (.aload_n 0, 1) := by decide +kernel
theorem dX6_partItem_15 : decode cX6_partItem 15 = .ok (.iload 4, 2) := by decide +kernel
theorem dX6_partItem_17 : decode cX6_partItem 17 = .ok (.iload 5, 2) := by decide +kernel
theorem dX6_partItem_19 : decode cX6_partItem 19 = .ok (.invokevirtual 243, 3) := by decide +kernel
theorem dX6_partItem_22 : decode cX6_partItem 22 = .ok (.bipush 7, 2) := by decide +kernel
theorem dX6_partItem_24 : decode cX6_partItem 24 = .ok (.iconst 5, 1) := by decide +kernel
theorem dX6_partItem_25 : decode cX6_partItem 25 = .ok (.aload_n 0, 1) := by decide +kernel
theorem dX6_partItem_26 : decode cX6_partItem 26 = .ok (.getfield 7, 3) := by decide +kernel
theorem dX6_partItem_29 : decode cX6_partItem 29 = .ok (.iconst 0, 1) := by decide +kernel
theorem dX6_partItem_30 : decode cX6_partItem 30 = .ok (.iaload, 1) := by decide +kernel
theorem dX6_partItem_31 : decode cX6_partItem 31 = .ok (.iconst 1, 1) := by decide +kernel
theorem dX6_partItem_32 : decode cX6_partItem 32 = .ok (.isub, 1) := by decide +kernel
theorem dX6_partItem_33 : decode cX6_partItem 33 = .ok (.imul, 1) := by decide +kernel
theorem dX6_partItem_34 : decode cX6_partItem 34 = .ok (.iadd, 1) := by decide +kernel
theorem dX6_partItem_35 : decode cX6_partItem 35 = .ok (.iload_n 3, 1) := by decide +kernel
theorem dX6_partItem_36 : decode cX6_partItem 36 = .ok (.iadd, 1) := by decide +kernel
theorem dX6_partItem_37 : decode cX6_partItem 37 = .ok (.istore 6, 2) := by decide +kernel
theorem dX6_partItem_39 : decode cX6_partItem 39 = .ok (.aload_n 0, 1) := by decide +kernel
theorem dX6_partItem_40 : decode cX6_partItem 40 = .ok (.getfield 7, 3) := by decide +kernel
theorem dX6_partItem_43 : decode cX6_partItem 43 = .ok (.iload 6, 2) := by decide +kernel
theorem dX6_partItem_45 : decode cX6_partItem 45 = .ok (.aload_n 0, 1) := by decide +kernel
theorem dX6_partItem_46 : decode cX6_partItem 46 = .ok (.getfield 209, 3) := by decide +kernel
theorem dX6_partItem_49 : decode cX6_partItem 49 = .ok (.ifCond .eq 13, 3) := by decide +kernel
theorem dX6_partItem_52 : decode cX6_partItem 52 = .ok (.aload_n 0, 1) := by decide +kernel
theorem dX6_partItem_53 : decode cX6_partItem 53 = .ok (.getfield 7, 3) := by decide +kernel
theorem dX6_partItem_56 : decode cX6_partItem 56 = .ok (.iload 6, 2) := by decide +kernel
theorem dX6_partItem_58 : decode cX6_partItem 58 = .ok (.iaload, 1) := by decide +kernel
theorem dX6_partItem_59 : decode cX6_partItem 59 = .ok (.goto 7, 3) := by decide +kernel
theorem dX6_partItem_62 : decode cX6_partItem 62 = .ok (.aload_n 0, 1) := by decide +kernel
theorem dX6_partItem_63 : decode cX6_partItem 63 = .ok (.getfield 220, 3) := by decide +kernel
theorem dX6_partItem_66 : decode cX6_partItem 66 = .ok (.iastore, 1) := by decide +kernel
theorem dX6_partItem_67 : decode cX6_partItem 67 = .ok (.return_, 1) := by decide +kernel
theorem dX6_calendarItem_0 : decode cX6_calendarItem 0 = .ok (.aload_n 0, 1) := by decide +kernel
theorem dX6_calendarItem_1 : decode cX6_calendarItem 1 = .ok (.aload_n 0, 1) := by decide +kernel
theorem dX6_calendarItem_2 : decode cX6_calendarItem 2 = .ok (.getfield 7, 3) := by decide +kernel
theorem dX6_calendarItem_5 : decode cX6_calendarItem 5 = .ok (.iconst 0, 1) := by decide +kernel
theorem dX6_calendarItem_6 : decode cX6_calendarItem 6 = .ok (.iaload, 1) := by decide +kernel
theorem dX6_calendarItem_7 : decode cX6_calendarItem 7 = .ok (.bipush 6, 2) := by decide +kernel
theorem dX6_calendarItem_9 : decode cX6_calendarItem 9 = .ok (.if_icmp .ge 7, 3) := by decide +kernel
theorem dX6_calendarItem_12 : decode cX6_calendarItem 12 = .ok (.iconst 1, 1) := by decide +kernel
theorem dX6_calendarItem_13 : decode cX6_calendarItem 13 = .ok (.goto 4, 3) := by decide +kernel
theorem dX6_calendarItem_16 : decode cX6_calendarItem 16 = .ok (.iconst 0, 1) := by decide +kernel
theorem dX6_calendarItem_17 : decode cX6_calendarItem 17 = .ok (.invokevirtual 223, 3) := by decide +kernel
theorem dX6_calendarItem_20 : decode cX6_calendarItem 20 = .ok (.aload_n 0, 1) := by decide +kernel
theorem dX6_calendarItem_21 : decode cX6_calendarItem 21 = .ok (.getfield 209, 3) := by decide +kernel
theorem dX6_calendarItem_24 : decode cX6_calendarItem 24 = .ok (.ifCond .eq 4, 3) := by decide +kernel
theorem dX6_calendarItem_27 : decode cX6_calendarItem 27 = .ok (.return_, 1) := by decide +kernel
theorem dX6_calendarItem_28 : decode cX6_calendarItem 28 = .ok (.aload_n 0, 1) := by decide +kernel
theorem dX6_calendarItem_29 : decode cX6_calendarItem 29 = .ok (.iload_n 1, 1) := by decide +kernel
theorem dX6_calendarItem_30 : decode cX6_calendarItem 30 = .ok (.invokevirtual 64, 3) := by decide +kernel
theorem dX6_calendarItem_33 : decode cX6_calendarItem 33 = .ok (.istore_n 2, 1) := by decide +kernel
theorem dX6_calendarItem_34 : decode cX6_calendarItem 34 = .ok (.aload_n 0, 1) := by decide +kernel
theorem dX6_calendarItem_35 : decode cX6_calendarItem 35 = .ok (.ldc2_w 247, 3) := by decide +kernel
theorem dX6_calendarItem_38 : decode cX6_calendarItem 38 = .ok (.iconst 1, 1) := by decide +kernel
theorem dX6_calendarItem_39 : decode cX6_calendarItem 39 = .ok (.iconst 0, 1) := by decide +kernel
theorem dX6_calendarItem_40 : decode cX6_calendarItem 40 = .ok (.bipush 99, 2) := by decide +kernel
theorem dX6_calendarItem_42 : decode cX6_calendarItem 42 = .ok (.invokevirtual 249, 3) := by decide +kernel
theorem dX6_calendarItem_45 : decode cX6_calendarItem 45 = .ok (.aload_n 0, 1) := by decide +kernel
theorem dX6_calendarItem_46 : decode cX6_calendarItem 46 = .ok (.ldc2_w 253, 3) := by decide +kernel
theorem dX6_calendarItem_49 : decode cX6_calendarItem 49 = .ok (.iconst 2, 1) := by decide +kernel
theorem dX6_calendarItem_50 : decode cX6_calendarItem 50 = .ok (.iconst 1, 1) := by decide +kernel
theorem dX6_calendarItem_51 : decode cX6_calendarItem 51 = .ok (.bipush 60, 2) := by decide +kernel
theorem dX6_calendarItem_53 : decode cX6_calendarItem 53 = .ok (.invokevirtual 249, 3) := by decide +kernel
theorem dX6_calendarItem_56 : decode cX6_calendarItem 56 = .ok (.aload_n 0, 1) := by decide +kernel
theorem dX6_calendarItem_57 : decode cX6_calendarItem 57 = .ok (.ldc2_w 255, 3) := by decide +kernel
theorem dX6_calendarItem_60 : decode cX6_calendarItem 60 = .ok (.iconst 3, 1) := by decide +kernel
theorem dX6_calendarItem_61 : decode cX6_calendarItem 61 = .ok (.iconst 0, 1) := by decide +kernel
theorem dX6_calendarItem_62 : decode cX6_calendarItem 62 = .ok (.bipush 99, 2) := by decide +kernel
theorem dX6_calendarItem_64 : decode cX6_calendarItem 64 = .ok (.invokevirtual 249, 3) := by decide +kernel
theorem dX6_calendarItem_67 : decode cX6_calendarItem 67 = .ok (.aload_n 0, 1) := by decide +kernel
theorem dX6_calendarItem_68 : decode cX6_calendarItem 68 = .ok (.ldc2_w 257, 3) := by decide +kernel
theorem dX6_calendarItem_71 : decode cX6_calendarItem 71 = .ok (.iconst 4, 1) := by decide +kernel
theorem dX6_calendarItem_72 : decode cX6_calendarItem 72 = .ok (.iconst 0, 1) := by decide +kernel
theorem dX6_calendarItem_73 : decode cX6_calendarItem 73 = .ok (.sipush 9999, 3) := by decide +kernel
theorem dX6_calendarItem_76 : decode cX6_calendarItem 76 = .ok (.invokevirtual 249, 3) := by decide +kernel
theorem dX6_calendarItem_79 : decode cX6_calendarItem 79 = .ok (.return_, 1) := by decide +kernel
theorem dX6_pilgrimItem_0 : decode cX6_pilgrimItem 0 = .ok (.aload_n 0, 1) := by decide +kernel
theorem dX6_pilgrimItem_1 : decode cX6_pilgrimItem 1 = .ok (.aload_n 0, 1) := by decide +kernel
theorem dX6_pilgrimItem_2 : decode cX6_pilgrimItem 2 = .ok (.getfield 7, 3) := by decide +kernel
theorem dX6_pilgrimItem_5 : decode cX6_pilgrimItem 5 = .ok (.iconst 1, 1) := by decide +kernel
theorem dX6_pilgrimItem_6 : decode cX6_pilgrimItem 6 = .ok (.iaload, 1) := by decide +kernel
theorem dX6_pilgrimItem_7 : decode cX6_pilgrimItem 7 = .ok (.bipush 8, 2) := by decide +kernel
theorem dX6_pilgrimItem_9 : decode cX6_pilgrimItem 9 = .ok (.if_icmp .ge 7, 3) := by decide +kernel
theorem dX6_pilgrimItem_12 : decode cX6_pilgrimItem 12 = .ok (.iconst 1, 1) := by decide +kernel
theorem dX6_pilgrimItem_13 : decode cX6_pilgrimItem 13 = .ok (.goto 4, 3) := by decide +kernel
theorem dX6_pilgrimItem_16 : decode cX6_pilgrimItem 16 = .ok (.iconst 0, 1) := by decide +kernel
theorem dX6_pilgrimItem_17 : decode cX6_pilgrimItem 17 = .ok (.invokevirtual 223, 3) := by decide +kernel
theorem dX6_pilgrimItem_20 : decode cX6_pilgrimItem 20 = .ok (.aload_n 0, 1) := by decide +kernel
theorem dX6_pilgrimItem_21 : decode cX6_pilgrimItem 21 = .ok (.iconst 0, 1) := by decide +kernel
theorem dX6_pilgrimItem_22 : decode cX6_pilgrimItem 22 = .ok (.bipush 99, 2) := by decide +kernel
theorem dX6_pilgrimItem_24 : decode cX6_pilgrimItem 24 = .ok (.invokevirtual 243, 3) := by decide +kernel
theorem dX6_pilgrimItem_27 : decode cX6_pilgrimItem 27 = .ok (.aload_n 0, 1) := by decide +kernel
theorem dX6_pilgrimItem_28 : decode cX6_pilgrimItem 28 = .ok (.getfield 220, 3) := by decide +kernel
theorem dX6_pilgrimItem_31 : decode cX6_pilgrimItem 31 = .ok (.istore_n 1, 1) := by decide +kernel
theorem dX6_pilgrimItem_32 : decode cX6_pilgrimItem 32 = .ok (.iconst (-1), 1) := by decide +kernel
theorem dX6_pilgrimItem_33 : decode cX6_pilgrimItem 33 = .ok (.istore_n 2, 1) := by decide +kernel
theorem dX6_pilgrimItem_34 : decode cX6_pilgrimItem 34 = .ok (.aload_n 0, 1) := by decide +kernel
theorem dX6_pilgrimItem_35 : decode cX6_pilgrimItem 35 = .ok (.invokevirtual 227, 3) := by decide +kernel
theorem dX6_pilgrimItem_38 : decode cX6_pilgrimItem 38 = .ok (.ldc2_w 259, 3) := by decide +kernel
theorem dX6_pilgrimItem_41 : decode cX6_pilgrimItem 41 = .ok (.lcmp, 1) := by decide +kernel
theorem dX6_pilgrimItem_42 : decode cX6_pilgrimItem 42 = .ok (.ifCond .ne 26, 3) := by decide +kernel
theorem dX6_pilgrimItem_45 : decode cX6_pilgrimItem 45 = .ok (.aload_n 0, 1) := by decide +kernel
theorem dX6_pilgrimItem_46 : decode cX6_pilgrimItem 46 = .ok (.iconst 1, 1) := by decide +kernel
theorem dX6_pilgrimItem_47 : decode cX6_pilgrimItem 47 = .ok (.invokevirtual 223, 3) := by decide +kernel
theorem dX6_pilgrimItem_50 : decode cX6_pilgrimItem 50 = .ok (.aload_n 0, 1) := by decide +kernel
theorem dX6_pilgrimItem_51 : decode cX6_pilgrimItem 51 = .ok (.iconst 0, 1) := by decide +kernel
theorem dX6_pilgrimItem_52 : decode cX6_pilgrimItem 52 = .ok (.aload_n 0, 1) := by decide +kernel
theorem dX6_pilgrimItem_53 : decode cX6_pilgrimItem 53 = .ok (.getfield 7, 3) := by decide +kernel
theorem dX6_pilgrimItem_56 : decode cX6_pilgrimItem 56 = .ok (.iconst 0, 1) := by decide +kernel
theorem dX6_pilgrimItem_57 : decode cX6_pilgrimItem 57 = .ok (.iaload, 1) := by decide +kernel
theorem dX6_pilgrimItem_58 : decode cX6_pilgrimItem 58 = .ok (.iconst 1, 1) := by decide +kernel
theorem dX6_pilgrimItem_59 : decode cX6_pilgrimItem 59 = .ok (.isub, 1) := by decide +kernel
theorem dX6_pilgrimItem_60 : decode cX6_pilgrimItem 60 = .ok (.invokevirtual 243, 3) := by decide +kernel
theorem dX6_pilgrimItem_63 : decode cX6_pilgrimItem 63 = .ok (.aload_n 0, 1) := by decide +kernel
theorem dX6_pilgrimItem_64 : decode cX6_pilgrimItem 64 = .ok (.getfield 220, 3) := by decide +kernel
theorem dX6_pilgrimItem_67 : decode cX6_pilgrimItem 67 = .ok (.istore_n 2, 1) := by decide +kernel
theorem dX6_pilgrimItem_68 : decode cX6_pilgrimItem 68 = .ok (.aload_n 0, 1) := by decide +kernel
theorem dX6_pilgrimItem_69 : decode cX6_pilgrimItem 69 = .ok (.getfield 209, 3) := by decide +kernel
theorem dX6_pilgrimItem_72 : decode cX6_pilgrimItem 72 = .ok (.ifCond .ne 10, 3) := by decide +kernel
theorem dX6_pilgrimItem_75 : decode cX6_pilgrimItem 75 = .ok (.aload_n 0, 1) := by decide +kernel
theorem dX6_pilgrimItem_76 : decode cX6_pilgrimItem 76 = .ok (.iload_n 1, 1) := by decide +kernel
theorem dX6_pilgrimItem_77 : decode cX6_pilgrimItem 77 = .ok (.iload_n 2, 1) := by decide +kernel
theorem dX6_pilgrimItem_78 : decode cX6_pilgrimItem 78 = .ok (.invokevirtual 110, 3) := by decide +kernel
theorem dX6_pilgrimItem_81 : decode cX6_pilgrimItem 81 = .ok (.istore_n 3, 1) := by decide +kernel
theorem dX6_pilgrimItem_82 : decode cX6_pilgrimItem 82 = .ok (.return_, 1) := by decide +kernel
theorem dX6_item_0 : decode cX6_item 0 = .ok (.aload_n 0, 1) := by decide +kernel
theorem dX6_item_1 : decode cX6_item 1 = .ok (.invokevirtual 261, 3) := by decide +kernel
theorem dX6_item_4 : decode cX6_item 4 = .ok (.istore_n 1, 1) := by decide +kernel
theorem dX6_item_5 : decode cX6_item 5 = .ok (.aload_n 0, 1) := by decide +kernel
theorem dX6_item_6 : decode cX6_item 6 = .ok (.invokevirtual 227, 3) := by decide +kernel
theorem dX6_item_9 : decode cX6_item 9 = .ok (.lstore_n 2, 1) := by decide +kernel
theorem dX6_item_10 : decode cX6_item 10 = .ok (.iload_n 1, 1) := by decide +kernel
theorem dX6_item_11 : decode cX6_item 11 = .ok (.ifCond .lt 11, 3) := by decide +kernel
theorem dX6_item_14 : decode cX6_item 14 = .ok (.aload_n 0, 1) := by decide +kernel
theorem dX6_item_15 : decode cX6_item 15 = .ok (.iload_n 1, 1) := by decide +kernel
theorem dX6_item_16 : decode cX6_item 16 = .ok (.invokevirtual 264, 3) := by decide +kernel
theorem dX6_item_19 : decode cX6_item 19 = .ok (.goto 120, 3) := by decide +kernel
theorem dX6_item_22 : decode cX6_item 22 = .ok (.lload_n 2, 1) := by decide +kernel
theorem dX6_item_23 : decode cX6_item 23 = .ok (.ldc2_w 267, 3) := by decide +kernel
theorem dX6_item_26 : decode cX6_item 26 = .ok (.lcmp, 1) := by decide +kernel
theorem dX6_item_27 : decode cX6_item 27 = .ok (.ifCond .ne 10, 3) := by decide +kernel
theorem dX6_item_30 : decode cX6_item 30 = .ok (.aload_n 0, 1) := by decide +kernel
theorem dX6_item_31 : decode cX6_item 31 = .ok (.invokevirtual 269, 3) := by decide +kernel
theorem dX6_item_34 : decode cX6_item 34 = .ok (.goto 105, 3) := by decide +kernel
theorem dX6_item_37 : decode cX6_item 37 = .ok (.lload_n 2, 1) := by decide +kernel
theorem dX6_item_38 : decode cX6_item 38 = .ok (.ldc2_w 272, 3) := by decide +kernel
theorem dX6_item_41 : decode cX6_item 41 = .ok (.lcmp, 1) := by decide +kernel
theorem dX6_item_42 : decode cX6_item 42 = .ok (.ifCond .ne 7, 3) := by decide +kernel
theorem dX6_item_45 : decode cX6_item 45 = .ok (.iconst 1, 1) := by decide +kernel
theorem dX6_item_46 : decode cX6_item 46 = .ok (.goto 4, 3) := by decide +kernel
theorem dX6_item_49 : decode cX6_item 49 = .ok (.iconst 0, 1) := by decide +kernel
theorem dX6_item_50 : decode cX6_item 50 = .ok (.istore 4, 2) := by decide +kernel
theorem dX6_item_52 : decode cX6_item 52 = .ok (.aload_n 0, 1) := by decide +kernel
theorem dX6_item_53 : decode cX6_item 53 = .ok (.iload 4, 2) := by decide +kernel
theorem dX6_item_55 : decode cX6_item 55 = .ok (.ifCond .ne 11, 3) := by decide +kernel
theorem dX6_item_58 : decode cX6_item 58 = .ok (.lload_n 2, 1) := by decide +kernel
theorem dX6_item_59 : decode cX6_item 59 = .ok (.ldc2_w 274, 3) := by decide +kernel
theorem dX6_item_62 : decode cX6_item 62 = .ok (.lcmp, 1) := by decide +kernel
theorem dX6_item_63 : decode cX6_item 63 = .ok (.ifCond .ne 7, 3) := by decide +kernel
theorem dX6_item_66 : decode cX6_item 66 = .ok (.iconst 1, 1) := by decide +kernel
theorem dX6_item_67 : decode cX6_item 67 = .ok (.goto 4, 3) := by decide +kernel
theorem dX6_item_70 : decode cX6_item 70 = .ok (.iconst 0, 1) := by decide +kernel
theorem dX6_item_71 : decode cX6_item 71 = .ok (.invokevirtual 223, 3) := by decide +kernel
theorem dX6_item_74 : decode cX6_item 74 = .ok (.aload_n 0, 1) := by decide +kernel
theorem dX6_item_75 : decode cX6_item 75 = .ok (.iload 4, 2) := by decide +kernel
theorem dX6_item_77 : decode cX6_item 77 = .ok (.ifCond .eq 7, 3) := by decide +kernel
theorem dX6_item_80 : decode cX6_item 80 = .ok (.iconst 0, 1) := by decide +kernel
theorem dX6_item_81 : decode cX6_item 81 = .ok (.goto 4, 3) := by decide +kernel
theorem dX6_item_84 : decode cX6_item 84 = .ok (.iconst 1, 1) := by decide +kernel
theorem dX6_item_85 : decode cX6_item 85 = .ok (.iload 4, 2) := by decide +kernel
theorem dX6_item_87 : decode cX6_item 87 = .ok (.ifCond .eq 7, 3) := by decide +kernel
theorem dX6_item_90 : decode cX6_item 90 = .ok (.iconst 5, 1) := by decide +kernel
theorem dX6_item_91 : decode cX6_item 91 = .ok (.goto 5, 3) := by decide +kernel
theorem dX6_item_94 : decode cX6_item 94 = .ok (.bipush 50, 2) := by decide +kernel
theorem dX6_item_96 : decode cX6_item 96 = .ok (.invokevirtual 243, 3) := by decide +kernel
theorem dX6_item_99 : decode cX6_item 99 = .ok (.iload 4, 2) := by decide +kernel
theorem dX6_item_101 : decode cX6_item 101 = .ok (.ifCond .eq 7, 3) := by decide +kernel
theorem dX6_item_104 : decode cX6_item 104 = .ok (.iconst 4, 1) := by decide +kernel
theorem dX6_item_105 : decode cX6_item 105 = .ok (.goto 4, 3) := by decide +kernel
theorem dX6_item_108 : decode cX6_item 108 = .ok (.iconst 3, 1) := by decide +kernel
theorem dX6_item_109 : decode cX6_item 109 = .ok (.istore 5, 2) := by decide +kernel
theorem dX6_item_111 : decode cX6_item 111 = .ok (.aload_n 0, 1) := by decide +kernel
theorem dX6_item_112 : decode cX6_item 112 = .ok (.getfield 7, 3) := by decide +kernel
theorem dX6_item_115 : decode cX6_item 115 = .ok (.iload 5, 2) := by decide +kernel
theorem dX6_item_117 : decode cX6_item 117 = .ok (.aload_n 0, 1) := by decide +kernel
theorem dX6_item_118 : decode cX6_item 118 = .ok (.getfield 209, 3) := by decide +kernel
theorem dX6_item_121 : decode cX6_item 121 = .ok (.ifCond .eq 13, 3) := by decide +kernel
theorem dX6_item_124 : decode cX6_item 124 = .ok (.aload_n 0, 1) := by decide +kernel
theorem dX6_item_125 : decode cX6_item 125 = .ok (.getfield 7, 3) := by decide +kernel
theorem dX6_item_128 : decode cX6_item 128 = .ok (.iload 5, 2) := by decide +kernel
theorem dX6_item_130 : decode cX6_item 130 = .ok (.iaload, 1) := by decide +kernel
theorem dX6_item_131 : decode cX6_item 131 = .ok (.goto 7, 3) := by decide +kernel
theorem dX6_item_134 : decode cX6_item 134 = .ok (.aload_n 0, 1) := by decide +kernel
theorem dX6_item_135 : decode cX6_item 135 = .ok (.getfield 220, 3) := by decide +kernel
theorem dX6_item_138 : decode cX6_item 138 = .ok (.iastore, 1) := by decide +kernel
theorem dX6_item_139 : decode cX6_item 139 = .ok (.return_, 1) := by decide +kernel
theorem dX6_spring_0 : decode cX6_spring 0 = .ok (.aload_n 0, 1) := by decide +kernel
theorem dX6_spring_1 : decode cX6_spring 1 = .ok (.invokevirtual 276, 3) := by decide +kernel
theorem dX6_spring_4 : decode cX6_spring 4 = .ok (.aload_n 0, 1) := by decide +kernel
theorem dX6_spring_5 : decode cX6_spring 5 = .ok (.iconst 0, 1) := by decide +kernel
theorem dX6_spring_6 : decode cX6_spring 6 = .ok (.putfield 209, 3) := by decide +kernel
theorem dX6_spring_9 : decode cX6_spring 9 = .ok (.aload_n 0, 1) := by decide +kernel
theorem dX6_spring_10 : decode cX6_spring 10 = .ok (.iconst 0, 1) := by decide +kernel
theorem dX6_spring_11 : decode cX6_spring 11 = .ok (.putfield 194, 3) := by decide +kernel
theorem dX6_spring_14 : decode cX6_spring 14 = .ok (.aload_n 0, 1) := by decide +kernel
theorem dX6_spring_15 : decode cX6_spring 15 = .ok (.invokevirtual 213, 3) := by decide +kernel
theorem dX6_spring_18 : decode cX6_spring 18 = .ok (.iconst 1, 1) := by decide +kernel
theorem dX6_spring_19 : decode cX6_spring 19 = .ok (.istore_n 1, 1) := by decide +kernel
theorem dX6_spring_20 : decode cX6_spring 20 = .ok (.aload_n 0, 1) := by decide +kernel
theorem dX6_spring_21 : decode cX6_spring 21 = .ok (.invokevirtual 279, 3) := by decide +kernel
theorem dX6_spring_24 : decode cX6_spring 24 = .ok (.aload_n 0, 1) := by decide +kernel
theorem dX6_spring_25 : decode cX6_spring 25 = .ok (.getfield 209, 3) := by decide +kernel
theorem dX6_spring_28 : decode cX6_spring 28 = .ok (.ifCond .ne 31, 3) := by decide +kernel
theorem dX6_spring_31 : decode cX6_spring 31 = .ok (.aload_n 0, 1) := by decide +kernel
theorem dX6_spring_32 : decode cX6_spring 32 = .ok (.aload_n 0, 1) := by decide +kernel
theorem dX6_spring_33 : decode cX6_spring 33 = .ok (.getfield 197, 3) := by decide +kernel
theorem dX6_spring_36 : decode cX6_spring 36 = .ok (.invokevirtual 200, 3) := by decide +kernel
theorem dX6_spring_39 : decode cX6_spring 39 = .ok (.bipush 59, 2) := by decide +kernel
theorem dX6_spring_41 : decode cX6_spring 41 = .ok (.if_icmp .ne 18, 3) := by decide +kernel
theorem dX6_spring_44 : decode cX6_spring 44 = .ok (.aload_n 0, 1) := by decide +kernel
theorem dX6_spring_45 : decode cX6_spring 45 = .ok (.iconst 1, 1) := by decide +kernel
theorem dX6_spring_46 : decode cX6_spring 46 = .ok (.invokevirtual 223, 3) := by decide +kernel
theorem dX6_spring_49 : decode cX6_spring 49 = .ok (.aload_n 0, 1) := by decide +kernel
theorem dX6_spring_50 : decode cX6_spring 50 = .ok (.invokevirtual 279, 3) := by decide +kernel
theorem dX6_spring_53 : decode cX6_spring 53 = .ok (.iinc 1 1, 3) := by decide +kernel
theorem dX6_spring_56 : decode cX6_spring 56 = .ok (.goto (-32), 3) := by decide +kernel
theorem dX6_spring_59 : decode cX6_spring 59 = .ok (.aload_n 0, 1) := by decide +kernel
theorem dX6_spring_60 : decode cX6_spring 60 = .ok (.aload_n 0, 1) := by decide +kernel
theorem dX6_spring_61 : decode cX6_spring 61 = .ok (.getfield 209, 3) := by decide +kernel
theorem dX6_spring_64 : decode cX6_spring 64 = .ok (.ifCond .ne 14, 3) := by decide +kernel
theorem dX6_spring_67 : decode cX6_spring 67 = .ok (.aload_n 0, 1) := by decide +kernel
theorem dX6_spring_68 : decode cX6_spring 68 = .ok (.getfield 197, 3) := by decide +kernel
theorem dX6_spring_71 : decode cX6_spring 71 = .ok (.aload_n 0, 1) := by decide +kernel
theorem dX6_spring_72 : decode cX6_spring 72 = .ok (.getfield 182, 3) := by decide +kernel
theorem dX6_spring_75 : decode cX6_spring 75 = .ok (.if_icmp .ge 7, 3) := by decide +kernel
theorem dX6_spring_78 : decode cX6_spring 78 = .ok (.iconst 1, 1) := by decide +kernel
theorem dX6_spring_79 : decode cX6_spring 79 = .ok (.goto 4, 3) := by decide +kernel
theorem dX6_spring_82 : decode cX6_spring 82 = .ok (.iconst 0, 1) := by decide +kernel
theorem dX6_spring_83 : decode cX6_spring 83 = .ok (.putfield 209, 3) := by decide +kernel
theorem dX6_spring_86 : decode cX6_spring 86 = .ok (.aload_n 0, 1) := by decide +kernel
theorem dX6_spring_87 : decode cX6_spring 87 = .ok (.getfield 209, 3) := by decide +kernel
theorem dX6_spring_90 : decode cX6_spring 90 = .ok (.ifCond .eq 7, 3) := by decide +kernel
theorem dX6_spring_93 : decode cX6_spring 93 = .ok (.aload_n 0, 1) := by decide +kernel
theorem dX6_spring_94 : decode cX6_spring 94 = .ok (.invokevirtual 282, 3) := by decide +kernel
theorem dX6_spring_97 : decode cX6_spring 97 = .ok (.aload_n 0, 1) := by decide +kernel
theorem dX6_spring_98 : decode cX6_spring 98 = .ok (.iconst 0, 1) := by decide +kernel
theorem dX6_spring_99 : decode cX6_spring 99 = .ok (.putfield 182, 3) := by decide +kernel
theorem dX6_spring_102 : decode cX6_spring 102 = .ok (.aload_n 0, 1) := by decide +kernel
theorem dX6_spring_103 : decode cX6_spring 103 = .ok (.getfield 209, 3) := by decide +kernel
theorem dX6_spring_106 : decode cX6_spring 106 = .ok (.ifCond .eq 12, 3) := by decide +kernel
theorem dX6_spring_109 : decode cX6_spring 109 = .ok (.iconst (-1), 1) := by decide +kernel
theorem dX6_spring_110 : decode cX6_spring 110 = .ok (.aload_n 0, 1) := by decide +kernel
theorem dX6_spring_111 : decode cX6_spring 111 = .ok (.getfield 197, 3) := by decide +kernel
theorem dX6_spring_114 : decode cX6_spring 114 = .ok (.isub, 1) := by decide +kernel
theorem dX6_spring_115 : decode cX6_spring 115 = .ok (.goto 4, 3) := by decide +kernel
theorem dX6_spring_118 : decode cX6_spring 118 = .ok (.iload_n 1, 1) := by decide +kernel
theorem dX6_spring_119 : decode cX6_spring 119 = .ok (.ireturn, 1) := by decide +kernel
theorem dX6_isOne_0 : decode cX6_isOne 0 = .ok (.iload_n 0, 1) := by decide +kernel
theorem dX6_isOne_1 : decode cX6_isOne 1 = .ok (.i2l, 1) := by decide +kernel
theorem dX6_isOne_2 : decode cX6_isOne 2 = .ok (.lconst 0, 1) := by decide +kernel
theorem dX6_isOne_3 : decode cX6_isOne 3 = .ok (.ldc2_w 100, 3) := by decide +kernel
theorem dX6_isOne_6 : decode cX6_isOne 6 = .ok (.invokestatic 42, 3) := by decide +kernel
theorem dX6_isOne_9 : decode cX6_isOne 9 = .ok (.ireturn, 1) := by decide +kernel
theorem dX6_sheet_0 : decode cX6_sheet 0 = .ok (.iload_n 1, 1) := by decide +kernel
theorem dX6_sheet_1 : decode cX6_sheet 1 = .ok (.invokestatic 285, 3) := by decide +kernel
theorem dX6_sheet_4 : decode cX6_sheet 4 = .ok (.ifCond .eq 25, 3) := by decide +kernel
theorem dX6_sheet_7 : decode cX6_sheet 7 = .ok (.iload_n 2, 1) := by decide +kernel
theorem dX6_sheet_8 : decode cX6_sheet 8 = .ok (.ifCond .eq 28, 3) := by decide +kernel
theorem dX6_sheet_11 : decode cX6_sheet 11 = .ok (.iload_n 2, 1) := by decide +kernel
theorem dX6_sheet_12 : decode cX6_sheet 12 = .ok (.bipush 8, 2) := by decide +kernel
theorem dX6_sheet_14 : decode cX6_sheet 14 = .ok (.if_icmp .eq 22, 3) := by decide +kernel
theorem dX6_sheet_17 : decode cX6_sheet 17 = .ok (.iload_n 2, 1) := by decide +kernel
theorem dX6_sheet_18 : decode cX6_sheet 18 = .ok (.bipush 16, 2) := by decide +kernel
theorem dX6_sheet_20 : decode cX6_sheet 20 = .ok (.if_icmp .eq 16, 3) := by decide +kernel
theorem dX6_sheet_23 : decode cX6_sheet 23 = .ok (.iload_n 2, 1) := by decide +kernel
theorem dX6_sheet_24 : decode cX6_sheet 24 = .ok (.bipush 64, 2) := by decide +kernel
theorem dX6_sheet_26 : decode cX6_sheet 26 = .ok (.if_icmp .eq 10, 3) := by decide +kernel
theorem dX6_sheet_29 : decode cX6_sheet 29 = .ok (.aload_n 0, 1) := by decide +kernel
theorem dX6_sheet_30 : decode cX6_sheet 30 = .ok (.ldc 41, 2) := by decide +kernel
theorem dX6_sheet_32 : decode cX6_sheet 32 = .ok (.invokevirtual 59, 3) := by decide +kernel
theorem dX6_sheet_35 : decode cX6_sheet 35 = .ok (.ireturn, 1) := by decide +kernel
theorem dX6_sheet_36 : decode cX6_sheet 36 = .ok (.iload_n 3, 1) := by decide +kernel
theorem dX6_sheet_37 : decode cX6_sheet 37 = .ok (.ifCond .ge 11, 3) := by decide +kernel
theorem dX6_sheet_40 : decode cX6_sheet 40 = .ok (.aload_n 0, 1) := by decide +kernel
theorem dX6_sheet_41 : decode cX6_sheet 41 = .ok (.ldc_w 288, 3) := by decide +kernel
theorem dX6_sheet_44 : decode cX6_sheet 44 = .ok (.invokevirtual 59, 3) := by decide +kernel
theorem dX6_sheet_47 : decode cX6_sheet 47 = .ok (.ireturn, 1) := by decide +kernel
theorem dX6_sheet_48 : decode cX6_sheet 48 = .ok (.iload_n 3, 1) := by decide +kernel
theorem dX6_sheet_49 : decode cX6_sheet 49 = .ok (.bipush 40, 2) := by decide +kernel
theorem dX6_sheet_51 : decode cX6_sheet 51 = .ok (.if_icmp .le 10, 3) := by decide +kernel
theorem dX6_sheet_54 : decode cX6_sheet 54 = .ok (.aload_n 0, 1) := by decide +kernel
theorem dX6_sheet_55 : decode cX6_sheet 55 = .ok (.ldc 41, 2) := by decide +kernel
theorem dX6_sheet_57 : decode cX6_sheet 57 = .ok (.invokevirtual 59, 3) := by decide +kernel
theorem dX6_sheet_60 : decode cX6_sheet 60 = .ok (.ireturn, 1) := by decide +kernel
theorem dX6_sheet_61 : decode cX6_sheet 61 = .ok (.aload_n 0, 1) := by decide +kernel
theorem dX6_sheet_62 : decode cX6_sheet 62 = .ok (.getfield 28, 3) := by decide +kernel
theorem dX6_sheet_65 : decode cX6_sheet 65 = .ok (.iload_n 1, 1) := by decide +kernel
theorem dX6_sheet_66 : decode cX6_sheet 66 = .ok (.iload_n 2, 1) := by decide +kernel
theorem dX6_sheet_67 : decode cX6_sheet 67 = .ok (.iastore, 1) := by decide +kernel
theorem dX6_sheet_68 : decode cX6_sheet 68 = .ok (.aload_n 0, 1) := by decide +kernel
theorem dX6_sheet_69 : decode cX6_sheet 69 = .ok (.getfield 31, 3) := by decide +kernel
theorem dX6_sheet_72 : decode cX6_sheet 72 = .ok (.iload_n 1, 1) := by decide +kernel
theorem dX6_sheet_73 : decode cX6_sheet 73 = .ok (.iload_n 2, 1) := by decide +kernel
theorem dX6_sheet_74 : decode cX6_sheet 74 = .ok (.ifCond .ne 7, 3) := by decide +kernel
theorem dX6_sheet_77 : decode cX6_sheet 77 = .ok (.iconst 0, 1) := by decide +kernel
theorem dX6_sheet_78 : decode cX6_sheet 78 = .ok (.goto 4, 3) := by decide +kernel
theorem dX6_sheet_81 : decode cX6_sheet 81 = .ok (.iload_n 3, 1) := by decide +kernel
theorem dX6_sheet_82 : decode cX6_sheet 82 = .ok (.iastore, 1) := by decide +kernel
theorem dX6_sheet_83 : decode cX6_sheet 83 = .ok (.iconst 0, 1) := by decide +kernel
theorem dX6_sheet_84 : decode cX6_sheet 84 = .ok (.istore 4, 2) := by decide +kernel
theorem dX6_sheet_86 : decode cX6_sheet 86 = .ok (.iload 4, 2) := by decide +kernel
theorem dX6_sheet_88 : decode cX6_sheet 88 = .ok (.bipush 40, 2) := by decide +kernel
theorem dX6_sheet_90 : decode cX6_sheet 90 = .ok (.if_icmp .ge 22, 3) := by decide +kernel
theorem dX6_sheet_93 : decode cX6_sheet 93 = .ok (.aload_n 0, 1) := by decide +kernel
theorem dX6_sheet_94 : decode cX6_sheet 94 = .ok (.getfield 34, 3) := by decide +kernel
theorem dX6_sheet_97 : decode cX6_sheet 97 = .ok (.bipush 40, 2) := by decide +kernel
theorem dX6_sheet_99 : decode cX6_sheet 99 = .ok (.iload_n 1, 1) := by decide +kernel
theorem dX6_sheet_100 : decode cX6_sheet 100 = .ok (.imul, 1) := by decide +kernel
theorem dX6_sheet_101 : decode cX6_sheet 101 = .ok (.iload 4, 2) := by decide +kernel
theorem dX6_sheet_103 : decode cX6_sheet 103 = .ok (.iadd, 1) := by decide +kernel
theorem dX6_sheet_104 : decode cX6_sheet 104 = .ok (.lconst 0, 1) := by decide +kernel
theorem dX6_sheet_105 : decode cX6_sheet 105 = .ok (.lastore, 1) := by decide +kernel
theorem dX6_sheet_106 : decode cX6_sheet 106 = .ok (.iinc 4 1, 3) := by decide +kernel
theorem dX6_sheet_109 : decode cX6_sheet 109 = .ok (.goto (-23), 3) := by decide +kernel
theorem dX6_sheet_112 : decode cX6_sheet 112 = .ok (.aload_n 0, 1) := by decide +kernel
theorem dX6_sheet_113 : decode cX6_sheet 113 = .ok (.getfield 31, 3) := by decide +kernel
theorem dX6_sheet_116 : decode cX6_sheet 116 = .ok (.iload_n 1, 1) := by decide +kernel
theorem dX6_sheet_117 : decode cX6_sheet 117 = .ok (.iaload, 1) := by decide +kernel
theorem dX6_sheet_118 : decode cX6_sheet 118 = .ok (.ireturn, 1) := by decide +kernel
theorem dX6_narrowed_0 : decode cX6_narrowed 0 = .ok (.iload_n 0, 1) := by decide +kernel
theorem dX6_narrowed_1 : decode cX6_narrowed 1 = .ok (.bipush 8, 2) := by decide +kernel
theorem dX6_narrowed_3 : decode cX6_narrowed 3 = .ok (.if_icmp .ne 10, 3) := by decide +kernel
theorem dX6_narrowed_6 : decode cX6_narrowed 6 = .ok (.lload_n 1, 1) := by decide +kernel
theorem dX6_narrowed_7 : decode cX6_narrowed 7 = .ok (.l2i, 1) := by decide +kernel
theorem dX6_narrowed_8 : decode cX6_narrowed 8 = .ok (.i2b, 1) := by decide +kernel
theorem dX6_narrowed_9 : decode cX6_narrowed 9 = .ok (.i2l, 1) := by decide +kernel
theorem dX6_narrowed_10 : decode cX6_narrowed 10 = .ok (.goto 17, 3) := by decide +kernel
theorem dX6_narrowed_13 : decode cX6_narrowed 13 = .ok (.iload_n 0, 1) := by decide +kernel
theorem dX6_narrowed_14 : decode cX6_narrowed 14 = .ok (.bipush 16, 2) := by decide +kernel
theorem dX6_narrowed_16 : decode cX6_narrowed 16 = .ok (.if_icmp .ne 10, 3) := by decide +kernel
theorem dX6_narrowed_19 : decode cX6_narrowed 19 = .ok (.lload_n 1, 1) := by decide +kernel
theorem dX6_narrowed_20 : decode cX6_narrowed 20 = .ok (.l2i, 1) := by decide +kernel
theorem dX6_narrowed_21 : decode cX6_narrowed 21 = .ok (.i2s, 1) := by decide +kernel
theorem dX6_narrowed_22 : decode cX6_narrowed 22 = .ok (.i2l, 1) := by decide +kernel
theorem dX6_narrowed_23 : decode cX6_narrowed 23 = .ok (.goto 4, 3) := by decide +kernel
theorem dX6_narrowed_26 : decode cX6_narrowed 26 = .ok (.lload_n 1, 1) := by decide +kernel
theorem dX6_narrowed_27 : decode cX6_narrowed 27 = .ok (.lreturn, 1) := by decide +kernel
theorem dX6_wrongSheet_0 : decode cX6_wrongSheet 0 = .ok (.iload_n 1, 1) := by decide +kernel
theorem dX6_wrongSheet_1 : decode cX6_wrongSheet 1 = .ok (.invokestatic 285, 3) := by decide +kernel
theorem dX6_wrongSheet_4 : decode cX6_wrongSheet 4 = .ok (.ifCond .ne 8, 3) := by decide +kernel
theorem dX6_wrongSheet_7 : decode cX6_wrongSheet 7 = .ok (.ldc 41, 2) := by decide +kernel
theorem dX6_wrongSheet_9 : decode cX6_wrongSheet 9 = .ok (.goto 19, 3) := by decide +kernel
theorem dX6_wrongSheet_12 : decode cX6_wrongSheet 12 = .ok (.aload_n 0, 1) := by decide +kernel
theorem dX6_wrongSheet_13 : decode cX6_wrongSheet 13 = .ok (.getfield 28, 3) := by decide +kernel
theorem dX6_wrongSheet_16 : decode cX6_wrongSheet 16 = .ok (.iload_n 1, 1) := by decide +kernel
theorem dX6_wrongSheet_17 : decode cX6_wrongSheet 17 = .ok (.iaload, 1) := by decide +kernel
theorem dX6_wrongSheet_18 : decode cX6_wrongSheet 18 = .ok (.ifCond .ne 9, 3) := by decide +kernel
theorem dX6_wrongSheet_21 : decode cX6_wrongSheet 21 = .ok (.ldc_w 289, 3) := by decide +kernel
theorem dX6_wrongSheet_24 : decode cX6_wrongSheet 24 = .ok (.goto 4, 3) := by decide +kernel
theorem dX6_wrongSheet_27 : decode cX6_wrongSheet 27 = .ok (.iconst 0, 1) := by decide +kernel
theorem dX6_wrongSheet_28 : decode cX6_wrongSheet 28 = .ok (.ireturn, 1) := by decide +kernel
theorem dX6_write_0 : decode cX6_write 0 = .ok (.aload_n 0, 1) := by decide +kernel
theorem dX6_write_1 : decode cX6_write 1 = .ok (.iload_n 1, 1) := by decide +kernel
theorem dX6_write_2 : decode cX6_write 2 = .ok (.invokevirtual 290, 3) := by decide +kernel
theorem dX6_write_5 : decode cX6_write 5 = .ok (.istore 5, 2) := by decide +kernel
theorem dX6_write_7 : decode cX6_write 7 = .ok (.iload 5, 2) := by decide +kernel
theorem dX6_write_9 : decode cX6_write 9 = .ok (.ifCond .eq 11, 3) := by decide +kernel
theorem dX6_write_12 : decode cX6_write 12 = .ok (.aload_n 0, 1) := by decide +kernel
theorem dX6_write_13 : decode cX6_write 13 = .ok (.iload 5, 2) := by decide +kernel
theorem dX6_write_15 : decode cX6_write 15 = .ok (.invokevirtual 59, 3) := by decide +kernel
theorem dX6_write_18 : decode cX6_write 18 = .ok (.i2l, 1) := by decide +kernel
theorem dX6_write_19 : decode cX6_write 19 = .ok (.lreturn, 1) := by decide +kernel
theorem dX6_write_20 : decode cX6_write 20 = .ok (.iload_n 2, 1) := by decide +kernel
theorem dX6_write_21 : decode cX6_write 21 = .ok (.i2l, 1) := by decide +kernel
theorem dX6_write_22 : decode cX6_write 22 = .ok (.lconst 0, 1) := by decide +kernel
theorem dX6_write_23 : decode cX6_write 23 = .ok (.aload_n 0, 1) := by decide +kernel
theorem dX6_write_24 : decode cX6_write 24 = .ok (.getfield 31, 3) := by decide +kernel
theorem dX6_write_27 : decode cX6_write 27 = .ok (.iload_n 1, 1) := by decide +kernel
theorem dX6_write_28 : decode cX6_write 28 = .ok (.iaload, 1) := by decide +kernel
theorem dX6_write_29 : decode cX6_write 29 = .ok (.iconst 1, 1) := by decide +kernel
theorem dX6_write_30 : decode cX6_write 30 = .ok (.isub, 1) := by decide +kernel
theorem dX6_write_31 : decode cX6_write 31 = .ok (.i2l, 1) := by decide +kernel
theorem dX6_write_32 : decode cX6_write 32 = .ok (.invokestatic 42, 3) := by decide +kernel
theorem dX6_write_35 : decode cX6_write 35 = .ok (.ifCond .ne 11, 3) := by decide +kernel
theorem dX6_write_38 : decode cX6_write 38 = .ok (.aload_n 0, 1) := by decide +kernel
theorem dX6_write_39 : decode cX6_write 39 = .ok (.ldc 41, 2) := by decide +kernel
theorem dX6_write_41 : decode cX6_write 41 = .ok (.invokevirtual 59, 3) := by decide +kernel
theorem dX6_write_44 : decode cX6_write 44 = .ok (.i2l, 1) := by decide +kernel
theorem dX6_write_45 : decode cX6_write 45 = .ok (.lreturn, 1) := by decide +kernel
theorem dX6_write_46 : decode cX6_write 46 = .ok (.aload_n 0, 1) := by decide +kernel
theorem dX6_write_47 : decode cX6_write 47 = .ok (.getfield 34, 3) := by decide +kernel
theorem dX6_write_50 : decode cX6_write 50 = .ok (.bipush 40, 2) := by decide +kernel
theorem dX6_write_52 : decode cX6_write 52 = .ok (.iload_n 1, 1) := by decide +kernel
theorem dX6_write_53 : decode cX6_write 53 = .ok (.imul, 1) := by decide +kernel
theorem dX6_write_54 : decode cX6_write 54 = .ok (.iload_n 2, 1) := by decide +kernel
theorem dX6_write_55 : decode cX6_write 55 = .ok (.iadd, 1) := by decide +kernel
theorem dX6_write_56 : decode cX6_write 56 = .ok (.laload, 1) := by decide +kernel
theorem dX6_write_57 : decode cX6_write 57 = .ok (.lstore 6, 2) := by decide +kernel
theorem dX6_write_59 : decode cX6_write 59 = .ok (.aload_n 0, 1) := by decide +kernel
theorem dX6_write_60 : decode cX6_write 60 = .ok (.getfield 34, 3) := by decide +kernel
theorem dX6_write_63 : decode cX6_write 63 = .ok (.bipush 40, 2) := by decide +kernel
theorem dX6_write_65 : decode cX6_write 65 = .ok (.iload_n 1, 1) := by decide +kernel
theorem dX6_write_66 : decode cX6_write 66 = .ok (.imul, 1) := by decide +kernel
theorem dX6_write_67 : decode cX6_write 67 = .ok (.iload_n 2, 1) := by decide +kernel
theorem dX6_write_68 : decode cX6_write 68 = .ok (.iadd, 1) := by decide +kernel
theorem dX6_write_69 : decode cX6_write 69 = .ok (.aload_n 0, 1) := by decide +kernel
theorem dX6_write_70 : decode cX6_write 70 = .ok (.getfield 28, 3) := by decide +kernel
theorem dX6_write_73 : decode cX6_write 73 = .ok (.iload_n 1, 1) := by decide +kernel
theorem dX6_write_74 : decode cX6_write 74 = .ok (.iaload, 1) := by decide +kernel
theorem dX6_write_75 : decode cX6_write 75 = .ok (.lload_n 3, 1) := by decide +kernel
theorem dX6_write_76 : decode cX6_write 76 = .ok (.invokestatic 293, 3) := by decide +kernel
theorem dX6_write_79 : decode cX6_write 79 = .ok (.lastore, 1) := by decide +kernel
theorem dX6_write_80 : decode cX6_write 80 = .ok (.lload 6, 2) := by decide +kernel
theorem dX6_write_82 : decode cX6_write 82 = .ok (.lreturn, 1) := by decide +kernel
theorem dX6_copy_0 : decode cX6_copy 0 = .ok (.iload_n 1, 1) := by decide +kernel
theorem dX6_copy_1 : decode cX6_copy 1 = .ok (.invokestatic 285, 3) := by decide +kernel
theorem dX6_copy_4 : decode cX6_copy 4 = .ok (.ifCond .eq 10, 3) := by decide +kernel
theorem dX6_copy_7 : decode cX6_copy 7 = .ok (.iload_n 3, 1) := by decide +kernel
theorem dX6_copy_8 : decode cX6_copy 8 = .ok (.invokestatic 285, 3) := by decide +kernel
theorem dX6_copy_11 : decode cX6_copy 11 = .ok (.ifCond .ne 10, 3) := by decide +kernel
theorem dX6_copy_14 : decode cX6_copy 14 = .ok (.aload_n 0, 1) := by decide +kernel
theorem dX6_copy_15 : decode cX6_copy 15 = .ok (.ldc 41, 2) := by decide +kernel
theorem dX6_copy_17 : decode cX6_copy 17 = .ok (.invokevirtual 59, 3) := by decide +kernel
theorem dX6_copy_20 : decode cX6_copy 20 = .ok (.ireturn, 1) := by decide +kernel
theorem dX6_copy_21 : decode cX6_copy 21 = .ok (.aload_n 0, 1) := by decide +kernel
theorem dX6_copy_22 : decode cX6_copy 22 = .ok (.getfield 28, 3) := by decide +kernel
theorem dX6_copy_25 : decode cX6_copy 25 = .ok (.iload_n 1, 1) := by decide +kernel
theorem dX6_copy_26 : decode cX6_copy 26 = .ok (.iaload, 1) := by decide +kernel
theorem dX6_copy_27 : decode cX6_copy 27 = .ok (.ifCond .eq 12, 3) := by decide +kernel
theorem dX6_copy_30 : decode cX6_copy 30 = .ok (.aload_n 0, 1) := by decide +kernel
theorem dX6_copy_31 : decode cX6_copy 31 = .ok (.getfield 28, 3) := by decide +kernel
theorem dX6_copy_34 : decode cX6_copy 34 = .ok (.iload_n 3, 1) := by decide +kernel
theorem dX6_copy_35 : decode cX6_copy 35 = .ok (.iaload, 1) := by decide +kernel
theorem dX6_copy_36 : decode cX6_copy 36 = .ok (.ifCond .ne 11, 3) := by decide +kernel
theorem dX6_copy_39 : decode cX6_copy 39 = .ok (.aload_n 0, 1) := by decide +kernel
theorem dX6_copy_40 : decode cX6_copy 40 = .ok (.ldc_w 289, 3) := by decide +kernel
theorem dX6_copy_43 : decode cX6_copy 43 = .ok (.invokevirtual 59, 3) := by decide +kernel
theorem dX6_copy_46 : decode cX6_copy 46 = .ok (.ireturn, 1) := by decide +kernel
theorem dX6_copy_47 : decode cX6_copy 47 = .ok (.aload_n 0, 1) := by decide +kernel
theorem dX6_copy_48 : decode cX6_copy 48 = .ok (.getfield 28, 3) := by decide +kernel
theorem dX6_copy_51 : decode cX6_copy 51 = .ok (.iload_n 1, 1) := by decide +kernel
theorem dX6_copy_52 : decode cX6_copy 52 = .ok (.iaload, 1) := by decide +kernel
theorem dX6_copy_53 : decode cX6_copy 53 = .ok (.aload_n 0, 1) := by decide +kernel
theorem dX6_copy_54 : decode cX6_copy 54 = .ok (.getfield 28, 3) := by decide +kernel
theorem dX6_copy_57 : decode cX6_copy 57 = .ok (.iload_n 3, 1) := by decide +kernel
theorem dX6_copy_58 : decode cX6_copy 58 = .ok (.iaload, 1) := by decide +kernel
theorem dX6_copy_59 : decode cX6_copy 59 = .ok (.if_icmp .eq 10, 3) := by decide +kernel
theorem dX6_copy_62 : decode cX6_copy 62 = .ok (.aload_n 0, 1) := by decide +kernel
theorem dX6_copy_63 : decode cX6_copy 63 = .ok (.ldc 88, 2) := by decide +kernel
theorem dX6_copy_65 : decode cX6_copy 65 = .ok (.invokevirtual 59, 3) := by decide +kernel
theorem dX6_copy_68 : decode cX6_copy 68 = .ok (.ireturn, 1) := by decide +kernel
theorem dX6_copy_69 : decode cX6_copy 69 = .ok (.iload_n 2, 1) := by decide +kernel
theorem dX6_copy_70 : decode cX6_copy 70 = .ok (.ifCond .lt 40, 3) := by decide +kernel
theorem dX6_copy_73 : decode cX6_copy 73 = .ok (.iload 4, 2) := by decide +kernel
theorem dX6_copy_75 : decode cX6_copy 75 = .ok (.ifCond .lt 35, 3) := by decide +kernel
theorem dX6_copy_78 : decode cX6_copy 78 = .ok (.iload 5, 2) := by decide +kernel
theorem dX6_copy_80 : decode cX6_copy 80 = .ok (.ifCond .lt 30, 3) := by decide +kernel
theorem dX6_copy_83 : decode cX6_copy 83 = .ok (.iload 5, 2) := by decide +kernel
theorem dX6_copy_85 : decode cX6_copy 85 = .ok (.aload_n 0, 1) := by decide +kernel
theorem dX6_copy_86 : decode cX6_copy 86 = .ok (.getfield 31, 3) := by decide +kernel
theorem dX6_copy_89 : decode cX6_copy 89 = .ok (.iload_n 1, 1) := by decide +kernel
theorem dX6_copy_90 : decode cX6_copy 90 = .ok (.iaload, 1) := by decide +kernel
theorem dX6_copy_91 : decode cX6_copy 91 = .ok (.iload_n 2, 1) := by decide +kernel
theorem dX6_copy_92 : decode cX6_copy 92 = .ok (.isub, 1) := by decide +kernel
theorem dX6_copy_93 : decode cX6_copy 93 = .ok (.if_icmp .gt 17, 3) := by decide +kernel
theorem dX6_copy_96 : decode cX6_copy 96 = .ok (.iload 5, 2) := by decide +kernel
theorem dX6_copy_98 : decode cX6_copy 98 = .ok (.aload_n 0, 1) := by decide +kernel
theorem dX6_copy_99 : decode cX6_copy 99 = .ok (.getfield 31, 3) := by decide +kernel
theorem dX6_copy_102 : decode cX6_copy 102 = .ok (.iload_n 3, 1) := by decide +kernel
theorem dX6_copy_103 : decode cX6_copy 103 = .ok (.iaload, 1) := by decide +kernel
theorem dX6_copy_104 : decode cX6_copy 104 = .ok (.iload 4, 2) := by decide +kernel
theorem dX6_copy_106 : decode cX6_copy 106 = .ok (.isub, 1) := by decide +kernel
theorem dX6_copy_107 : decode cX6_copy 107 = .ok (.if_icmp .le 10, 3) := by decide +kernel
theorem dX6_copy_110 : decode cX6_copy 110 = .ok (.aload_n 0, 1) := by decide +kernel
theorem dX6_copy_111 : decode cX6_copy 111 = .ok (.ldc 41, 2) := by decide +kernel
theorem dX6_copy_113 : decode cX6_copy 113 = .ok (.invokevirtual 59, 3) := by decide +kernel
theorem dX6_copy_116 : decode cX6_copy 116 = .ok (.ireturn, 1) := by decide +kernel
theorem dX6_copy_117 : decode cX6_copy 117 = .ok (.iconst 0, 1) := by decide +kernel
theorem dX6_copy_118 : decode cX6_copy 118 = .ok (.istore 6, 2) := by decide +kernel
theorem dX6_copy_120 : decode cX6_copy 120 = .ok (.iload 6, 2) := by decide +kernel
theorem dX6_copy_122 : decode cX6_copy 122 = .ok (.iload 5, 2) := by decide +kernel
theorem dX6_copy_124 : decode cX6_copy 124 = .ok (.if_icmp .ge 30, 3) := by decide +kernel
theorem dX6_copy_127 : decode cX6_copy 127 = .ok (.aload_n 0, 1) := by decide +kernel
theorem dX6_copy_128 : decode cX6_copy 128 = .ok (.getfield 38, 3) := by decide +kernel
theorem dX6_copy_131 : decode cX6_copy 131 = .ok (.iload 6, 2) := by decide +kernel
theorem dX6_copy_133 : decode cX6_copy 133 = .ok (.aload_n 0, 1) := by decide +kernel
theorem dX6_copy_134 : decode cX6_copy 134 = .ok (.getfield 34, 3) := by decide +kernel
theorem dX6_copy_137 : decode cX6_copy 137 = .ok (.bipush 40, 2) := by decide +kernel
theorem dX6_copy_139 : decode cX6_copy 139 = .ok (.iload_n 1, 1) := by decide +kernel
theorem dX6_copy_140 : decode cX6_copy 140 = .ok (.imul, 1) := by decide +kernel
theorem dX6_copy_141 : decode cX6_copy 141 = .ok (.iload_n 2, 1) := by decide +kernel
theorem dX6_copy_142 : decode cX6_copy 142 = .ok (.iadd, 1) := by decide +kernel
theorem dX6_copy_143 : decode cX6_copy 143 = .ok (.iload 6, 2) := by decide +kernel
theorem dX6_copy_145 : decode cX6_copy 145 = .ok (.iadd, 1) := by decide +kernel
theorem dX6_copy_146 : decode cX6_copy 146 = .ok (.laload, 1) := by decide +kernel
theorem dX6_copy_147 : decode cX6_copy 147 = .ok (.lastore, 1) := by decide +kernel
theorem dX6_copy_148 : decode cX6_copy 148 = .ok (.iinc 6 1, 3) := by decide +kernel
theorem dX6_copy_151 : decode cX6_copy 151 = .ok (.goto (-31), 3) := by decide +kernel
theorem dX6_copy_154 : decode cX6_copy 154 = .ok (.iconst 0, 1) := by decide +kernel
theorem dX6_copy_155 : decode cX6_copy 155 = .ok (.istore 6, 2) := by decide +kernel
theorem dX6_copy_157 : decode cX6_copy 157 = .ok (.iload 6, 2) := by decide +kernel
theorem dX6_copy_159 : decode cX6_copy 159 = .ok (.iload 5, 2) := by decide +kernel
theorem dX6_copy_161 : decode cX6_copy 161 = .ok (.if_icmp .ge 31, 3) := by decide +kernel
theorem dX6_copy_164 : decode cX6_copy 164 = .ok (.aload_n 0, 1) := by decide +kernel
theorem dX6_copy_165 : decode cX6_copy 165 = .ok (.getfield 34, 3) := by decide +kernel
theorem dX6_copy_168 : decode cX6_copy 168 = .ok (.bipush 40, 2) := by decide +kernel
theorem dX6_copy_170 : decode cX6_copy 170 = .ok (.iload_n 3, 1) := by decide +kernel
theorem dX6_copy_171 : decode cX6_copy 171 = .ok (.imul, 1) := by decide +kernel
theorem dX6_copy_172 : decode cX6_copy 172 = .ok (.iload 4, 2) := by decide +kernel
theorem dX6_copy_174 : decode cX6_copy 174 = .ok (.iadd, 1) := by decide +kernel
theorem dX6_copy_175 : decode cX6_copy 175 = .ok (.iload 6, 2) := by decide +kernel
theorem dX6_copy_177 : decode cX6_copy 177 = .ok (.iadd, 1) := by decide +kernel
theorem dX6_copy_178 : decode cX6_copy 178 = .ok (.aload_n 0, 1) := by decide +kernel
theorem dX6_copy_179 : decode cX6_copy 179 = .ok (.getfield 38, 3) := by decide +kernel
theorem dX6_copy_182 : decode cX6_copy 182 = .ok (.iload 6, 2) := by decide +kernel
theorem dX6_copy_184 : decode cX6_copy 184 = .ok (.laload, 1) := by decide +kernel
theorem dX6_copy_185 : decode cX6_copy 185 = .ok (.lastore, 1) := by decide +kernel
theorem dX6_copy_186 : decode cX6_copy 186 = .ok (.iinc 6 1, 3) := by decide +kernel
theorem dX6_copy_189 : decode cX6_copy 189 = .ok (.goto (-32), 3) := by decide +kernel
theorem dX6_copy_192 : decode cX6_copy 192 = .ok (.iload 5, 2) := by decide +kernel
theorem dX6_copy_194 : decode cX6_copy 194 = .ok (.ireturn, 1) := by decide +kernel
theorem dX6_lays_0 : decode cX6_lays 0 = .ok (.aload_n 0, 1) := by decide +kernel
theorem dX6_lays_1 : decode cX6_lays 1 = .ok (.iload_n 1, 1) := by decide +kernel
theorem dX6_lays_2 : decode cX6_lays 2 = .ok (.invokevirtual 290, 3) := by decide +kernel
theorem dX6_lays_5 : decode cX6_lays 5 = .ok (.istore_n 2, 1) := by decide +kernel
theorem dX6_lays_6 : decode cX6_lays 6 = .ok (.iload_n 2, 1) := by decide +kernel
theorem dX6_lays_7 : decode cX6_lays 7 = .ok (.ifCond .eq 9, 3) := by decide +kernel
theorem dX6_lays_10 : decode cX6_lays 10 = .ok (.aload_n 0, 1) := by decide +kernel
theorem dX6_lays_11 : decode cX6_lays 11 = .ok (.iload_n 2, 1) := by decide +kernel
theorem dX6_lays_12 : decode cX6_lays 12 = .ok (.invokevirtual 59, 3) := by decide +kernel
theorem dX6_lays_15 : decode cX6_lays 15 = .ok (.ireturn, 1) := by decide +kernel
theorem dX6_lays_16 : decode cX6_lays 16 = .ok (.iconst 0, 1) := by decide +kernel
theorem dX6_lays_17 : decode cX6_lays 17 = .ok (.istore_n 3, 1) := by decide +kernel
theorem dX6_lays_18 : decode cX6_lays 18 = .ok (.iconst 0, 1) := by decide +kernel
theorem dX6_lays_19 : decode cX6_lays 19 = .ok (.istore 4, 2) := by decide +kernel
theorem dX6_lays_21 : decode cX6_lays 21 = .ok (.iload 4, 2) := by decide +kernel
theorem dX6_lays_23 : decode cX6_lays 23 = .ok (.aload_n 0, 1) := by decide +kernel
theorem dX6_lays_24 : decode cX6_lays 24 = .ok (.getfield 31, 3) := by decide +kernel
theorem dX6_lays_27 : decode cX6_lays 27 = .ok (.iload_n 1, 1) := by decide +kernel
theorem dX6_lays_28 : decode cX6_lays 28 = .ok (.iaload, 1) := by decide +kernel
theorem dX6_lays_29 : decode cX6_lays 29 = .ok (.if_icmp .ge 93, 3) := by decide +kernel
theorem dX6_lays_32 : decode cX6_lays 32 = .ok (.iload 4, 2) := by decide +kernel
theorem dX6_lays_34 : decode cX6_lays 34 = .ok (.aload_n 0, 1) := by decide +kernel
theorem dX6_lays_35 : decode cX6_lays 35 = .ok (.getfield 7, 3) := by decide +kernel
theorem dX6_lays_38 : decode cX6_lays 38 = .ok (.iconst 1, 1) := by decide +kernel
theorem dX6_lays_39 : decode cX6_lays 39 = .ok (.iaload, 1) := by decide +kernel
theorem dX6_lays_40 : decode cX6_lays 40 = .ok (.if_icmp .ge 82, 3) := by decide +kernel
theorem dX6_lays_43 : decode cX6_lays 43 = .ok (.aload_n 0, 1) := by decide +kernel
theorem dX6_lays_44 : decode cX6_lays 44 = .ok (.getfield 34, 3) := by decide +kernel
theorem dX6_lays_47 : decode cX6_lays 47 = .ok (.bipush 40, 2) := by decide +kernel
theorem dX6_lays_49 : decode cX6_lays 49 = .ok (.iload_n 1, 1) := by decide +kernel
theorem dX6_lays_50 : decode cX6_lays 50 = .ok (.imul, 1) := by decide +kernel
theorem dX6_lays_51 : decode cX6_lays 51 = .ok (.iload 4, 2) := by decide +kernel
theorem dX6_lays_53 : decode cX6_lays 53 = .ok (.iadd, 1) := by decide +kernel
theorem dX6_lays_54 : decode cX6_lays 54 = .ok (.laload, 1) := by decide +kernel
theorem dX6_lays_55 : decode cX6_lays 55 = .ok (.lconst 0, 1) := by decide +kernel
theorem dX6_lays_56 : decode cX6_lays 56 = .ok (.ldc2_w 76, 3) := by decide +kernel
theorem dX6_lays_59 : decode cX6_lays 59 = .ok (.invokestatic 42, 3) := by decide +kernel
theorem dX6_lays_62 : decode cX6_lays 62 = .ok (.istore 5, 2) := by decide +kernel
theorem dX6_lays_64 : decode cX6_lays 64 = .ok (.aload_n 0, 1) := by decide +kernel
theorem dX6_lays_65 : decode cX6_lays 65 = .ok (.getfield 7, 3) := by decide +kernel
theorem dX6_lays_68 : decode cX6_lays 68 = .ok (.iload 4, 2) := by decide +kernel
theorem dX6_lays_70 : decode cX6_lays 70 = .ok (.iconst 0, 1) := by decide +kernel
theorem dX6_lays_71 : decode cX6_lays 71 = .ok (.invokestatic 52, 3) := by decide +kernel
theorem dX6_lays_74 : decode cX6_lays 74 = .ok (.iload 5, 2) := by decide +kernel
theorem dX6_lays_76 : decode cX6_lays 76 = .ok (.ifCond .eq 19, 3) := by decide +kernel
theorem dX6_lays_79 : decode cX6_lays 79 = .ok (.aload_n 0, 1) := by decide +kernel
theorem dX6_lays_80 : decode cX6_lays 80 = .ok (.getfield 34, 3) := by decide +kernel
theorem dX6_lays_83 : decode cX6_lays 83 = .ok (.bipush 40, 2) := by decide +kernel
theorem dX6_lays_85 : decode cX6_lays 85 = .ok (.iload_n 1, 1) := by decide +kernel
theorem dX6_lays_86 : decode cX6_lays 86 = .ok (.imul, 1) := by decide +kernel
theorem dX6_lays_87 : decode cX6_lays 87 = .ok (.iload 4, 2) := by decide +kernel
theorem dX6_lays_89 : decode cX6_lays 89 = .ok (.iadd, 1) := by decide +kernel
theorem dX6_lays_90 : decode cX6_lays 90 = .ok (.laload, 1) := by decide +kernel
theorem dX6_lays_91 : decode cX6_lays 91 = .ok (.l2i, 1) := by decide +kernel
theorem dX6_lays_92 : decode cX6_lays 92 = .ok (.goto 10, 3) := by decide +kernel
theorem dX6_lays_95 : decode cX6_lays 95 = .ok (.aload_n 0, 1) := by decide +kernel
theorem dX6_lays_96 : decode cX6_lays 96 = .ok (.iload 4, 2) := by decide +kernel
theorem dX6_lays_98 : decode cX6_lays 98 = .ok (.iconst 0, 1) := by decide +kernel
theorem dX6_lays_99 : decode cX6_lays 99 = .ok (.invokevirtual 118, 3) := by decide +kernel
theorem dX6_lays_102 : decode cX6_lays 102 = .ok (.iastore, 1) := by decide +kernel
theorem dX6_lays_103 : decode cX6_lays 103 = .ok (.iload_n 3, 1) := by decide +kernel
theorem dX6_lays_104 : decode cX6_lays 104 = .ok (.iload 5, 2) := by decide +kernel
theorem dX6_lays_106 : decode cX6_lays 106 = .ok (.ifCond .eq 7, 3) := by decide +kernel
theorem dX6_lays_109 : decode cX6_lays 109 = .ok (.iconst 1, 1) := by decide +kernel
theorem dX6_lays_110 : decode cX6_lays 110 = .ok (.goto 4, 3) := by decide +kernel
theorem dX6_lays_113 : decode cX6_lays 113 = .ok (.iconst 0, 1) := by decide +kernel
theorem dX6_lays_114 : decode cX6_lays 114 = .ok (.iadd, 1) := by decide +kernel
theorem dX6_lays_115 : decode cX6_lays 115 = .ok (.istore_n 3, 1) := by decide +kernel
theorem dX6_lays_116 : decode cX6_lays 116 = .ok (.iinc 4 1, 3) := by decide +kernel
theorem dX6_lays_119 : decode cX6_lays 119 = .ok (.goto (-98), 3) := by decide +kernel
theorem dX6_lays_122 : decode cX6_lays 122 = .ok (.iload_n 3, 1) := by decide +kernel
theorem dX6_lays_123 : decode cX6_lays 123 = .ok (.ireturn, 1) := by decide +kernel
theorem dX6_wrongBook_0 : decode cX6_wrongBook 0 = .ok (.aload_n 0, 1) := by decide +kernel
theorem dX6_wrongBook_1 : decode cX6_wrongBook 1 = .ok (.iload_n 1, 1) := by decide +kernel
theorem dX6_wrongBook_2 : decode cX6_wrongBook 2 = .ok (.invokevirtual 290, 3) := by decide +kernel
theorem dX6_wrongBook_5 : decode cX6_wrongBook 5 = .ok (.istore_n 3, 1) := by decide +kernel
theorem dX6_wrongBook_6 : decode cX6_wrongBook 6 = .ok (.iload_n 3, 1) := by decide +kernel
theorem dX6_wrongBook_7 : decode cX6_wrongBook 7 = .ok (.ifCond .eq 7, 3) := by decide +kernel
theorem dX6_wrongBook_10 : decode cX6_wrongBook 10 = .ok (.iload_n 3, 1) := by decide +kernel
theorem dX6_wrongBook_11 : decode cX6_wrongBook 11 = .ok (.goto 17, 3) := by decide +kernel
theorem dX6_wrongBook_14 : decode cX6_wrongBook 14 = .ok (.aload_n 0, 1) := by decide +kernel
theorem dX6_wrongBook_15 : decode cX6_wrongBook 15 = .ok (.iload_n 2, 1) := by decide +kernel
theorem dX6_wrongBook_16 : decode cX6_wrongBook 16 = .ok (.invokevirtual 113, 3) := by decide +kernel
theorem dX6_wrongBook_19 : decode cX6_wrongBook 19 = .ok (.ifCond .eq 7, 3) := by decide +kernel
theorem dX6_wrongBook_22 : decode cX6_wrongBook 22 = .ok (.iconst 0, 1) := by decide +kernel
theorem dX6_wrongBook_23 : decode cX6_wrongBook 23 = .ok (.goto 5, 3) := by decide +kernel
theorem dX6_wrongBook_26 : decode cX6_wrongBook 26 = .ok (.ldc 41, 2) := by decide +kernel
theorem dX6_wrongBook_28 : decode cX6_wrongBook 28 = .ok (.ireturn, 1) := by decide +kernel
theorem dX6_book_0 : decode cX6_book 0 = .ok (.aload_n 0, 1) := by decide +kernel
theorem dX6_book_1 : decode cX6_book 1 = .ok (.iload_n 1, 1) := by decide +kernel
theorem dX6_book_2 : decode cX6_book 2 = .ok (.iload_n 2, 1) := by decide +kernel
theorem dX6_book_3 : decode cX6_book 3 = .ok (.invokevirtual 297, 3) := by decide +kernel
theorem dX6_book_6 : decode cX6_book 6 = .ok (.istore_n 3, 1) := by decide +kernel
theorem dX6_book_7 : decode cX6_book 7 = .ok (.iload_n 3, 1) := by decide +kernel
theorem dX6_book_8 : decode cX6_book 8 = .ok (.ifCond .eq 9, 3) := by decide +kernel
theorem dX6_book_11 : decode cX6_book 11 = .ok (.aload_n 0, 1) := by decide +kernel
theorem dX6_book_12 : decode cX6_book 12 = .ok (.iload_n 3, 1) := by decide +kernel
theorem dX6_book_13 : decode cX6_book 13 = .ok (.invokevirtual 59, 3) := by decide +kernel
theorem dX6_book_16 : decode cX6_book 16 = .ok (.ireturn, 1) := by decide +kernel
theorem dX6_book_17 : decode cX6_book 17 = .ok (.aload_n 0, 1) := by decide +kernel
theorem dX6_book_18 : decode cX6_book 18 = .ok (.invokevirtual 149, 3) := by decide +kernel
theorem dX6_book_21 : decode cX6_book 21 = .ok (.iconst 0, 1) := by decide +kernel
theorem dX6_book_22 : decode cX6_book 22 = .ok (.istore 4, 2) := by decide +kernel
theorem dX6_book_24 : decode cX6_book 24 = .ok (.iload 4, 2) := by decide +kernel
theorem dX6_book_26 : decode cX6_book 26 = .ok (.aload_n 0, 1) := by decide +kernel
theorem dX6_book_27 : decode cX6_book 27 = .ok (.getfield 31, 3) := by decide +kernel
theorem dX6_book_30 : decode cX6_book 30 = .ok (.iload_n 1, 1) := by decide +kernel
theorem dX6_book_31 : decode cX6_book 31 = .ok (.iaload, 1) := by decide +kernel
theorem dX6_book_32 : decode cX6_book 32 = .ok (.if_icmp .ge 41, 3) := by decide +kernel
theorem dX6_book_35 : decode cX6_book 35 = .ok (.aload_n 0, 1) := by decide +kernel
theorem dX6_book_36 : decode cX6_book 36 = .ok (.getfield 34, 3) := by decide +kernel
theorem dX6_book_39 : decode cX6_book 39 = .ok (.bipush 40, 2) := by decide +kernel
theorem dX6_book_41 : decode cX6_book 41 = .ok (.iload_n 1, 1) := by decide +kernel
theorem dX6_book_42 : decode cX6_book 42 = .ok (.imul, 1) := by decide +kernel
theorem dX6_book_43 : decode cX6_book 43 = .ok (.iload 4, 2) := by decide +kernel
theorem dX6_book_45 : decode cX6_book 45 = .ok (.iadd, 1) := by decide +kernel
theorem dX6_book_46 : decode cX6_book 46 = .ok (.aload_n 0, 1) := by decide +kernel
theorem dX6_book_47 : decode cX6_book 47 = .ok (.getfield 28, 3) := by decide +kernel
theorem dX6_book_50 : decode cX6_book 50 = .ok (.iload_n 1, 1) := by decide +kernel
theorem dX6_book_51 : decode cX6_book 51 = .ok (.iaload, 1) := by decide +kernel
theorem dX6_book_52 : decode cX6_book 52 = .ok (.aload_n 0, 1) := by decide +kernel
theorem dX6_book_53 : decode cX6_book 53 = .ok (.iload_n 2, 1) := by decide +kernel
theorem dX6_book_54 : decode cX6_book 54 = .ok (.iconst 0, 1) := by decide +kernel
theorem dX6_book_55 : decode cX6_book 55 = .ok (.invokevirtual 118, 3) := by decide +kernel
theorem dX6_book_58 : decode cX6_book 58 = .ok (.i2l, 1) := by decide +kernel
theorem dX6_book_59 : decode cX6_book 59 = .ok (.invokestatic 293, 3) := by decide +kernel
theorem dX6_book_62 : decode cX6_book 62 = .ok (.lastore, 1) := by decide +kernel
theorem dX6_book_63 : decode cX6_book 63 = .ok (.aload_n 0, 1) := by decide +kernel
theorem dX6_book_64 : decode cX6_book 64 = .ok (.invokevirtual 130, 3) := by decide +kernel
theorem dX6_book_67 : decode cX6_book 67 = .ok (.iinc 4 1, 3) := by decide +kernel
theorem dX6_book_70 : decode cX6_book 70 = .ok (.goto (-46), 3) := by decide +kernel
theorem dX6_book_73 : decode cX6_book 73 = .ok (.aload_n 0, 1) := by decide +kernel
theorem dX6_book_74 : decode cX6_book 74 = .ok (.aload_n 0, 1) := by decide +kernel
theorem dX6_book_75 : decode cX6_book 75 = .ok (.getfield 31, 3) := by decide +kernel
theorem dX6_book_78 : decode cX6_book 78 = .ok (.iload_n 1, 1) := by decide +kernel
theorem dX6_book_79 : decode cX6_book 79 = .ok (.iaload, 1) := by decide +kernel
theorem dX6_book_80 : decode cX6_book 80 = .ok (.invokevirtual 152, 3) := by decide +kernel
theorem dX6_book_83 : decode cX6_book 83 = .ok (.ireturn, 1) := by decide +kernel
theorem dX6_isBook_0 : decode cX6_isBook 0 = .ok (.iconst 0, 1) := by decide +kernel
theorem dX6_isBook_1 : decode cX6_isBook 1 = .ok (.istore_n 3, 1) := by decide +kernel
theorem dX6_isBook_2 : decode cX6_isBook 2 = .ok (.iload_n 3, 1) := by decide +kernel
theorem dX6_isBook_3 : decode cX6_isBook 3 = .ok (.aload_n 0, 1) := by decide +kernel
theorem dX6_isBook_4 : decode cX6_isBook 4 = .ok (.getfield 31, 3) := by decide +kernel
theorem dX6_isBook_7 : decode cX6_isBook 7 = .ok (.iload_n 1, 1) := by decide +kernel
theorem dX6_isBook_8 : decode cX6_isBook 8 = .ok (.iaload, 1) := by decide +kernel
theorem dX6_isBook_9 : decode cX6_isBook 9 = .ok (.if_icmp .ge 37, 3) := by decide +kernel
theorem dX6_isBook_12 : decode cX6_isBook 12 = .ok (.aload_n 0, 1) := by decide +kernel
theorem dX6_isBook_13 : decode cX6_isBook 13 = .ok (.getfield 34, 3) := by decide +kernel
theorem dX6_isBook_16 : decode cX6_isBook 16 = .ok (.bipush 40, 2) := by decide +kernel
theorem dX6_isBook_18 : decode cX6_isBook 18 = .ok (.iload_n 1, 1) := by decide +kernel
theorem dX6_isBook_19 : decode cX6_isBook 19 = .ok (.imul, 1) := by decide +kernel
theorem dX6_isBook_20 : decode cX6_isBook 20 = .ok (.iload_n 3, 1) := by decide +kernel
theorem dX6_isBook_21 : decode cX6_isBook 21 = .ok (.iadd, 1) := by decide +kernel
theorem dX6_isBook_22 : decode cX6_isBook 22 = .ok (.laload, 1) := by decide +kernel
theorem dX6_isBook_23 : decode cX6_isBook 23 = .ok (.aload_n 0, 1) := by decide +kernel
theorem dX6_isBook_24 : decode cX6_isBook 24 = .ok (.iload_n 2, 1) := by decide +kernel
theorem dX6_isBook_25 : decode cX6_isBook 25 = .ok (.iconst 0, 1) := by decide +kernel
theorem dX6_isBook_26 : decode cX6_isBook 26 = .ok (.invokevirtual 118, 3) := by decide +kernel
theorem dX6_isBook_29 : decode cX6_isBook 29 = .ok (.i2l, 1) := by decide +kernel
theorem dX6_isBook_30 : decode cX6_isBook 30 = .ok (.lcmp, 1) := by decide +kernel
theorem dX6_isBook_31 : decode cX6_isBook 31 = .ok (.ifCond .eq 5, 3) := by decide +kernel
theorem dX6_isBook_34 : decode cX6_isBook 34 = .ok (.iconst 0, 1) := by decide +kernel
theorem dX6_isBook_35 : decode cX6_isBook 35 = .ok (.ireturn, 1) := by decide +kernel
theorem dX6_isBook_36 : decode cX6_isBook 36 = .ok (.aload_n 0, 1) := by decide +kernel
theorem dX6_isBook_37 : decode cX6_isBook 37 = .ok (.invokevirtual 130, 3) := by decide +kernel
theorem dX6_isBook_40 : decode cX6_isBook 40 = .ok (.iinc 3 1, 3) := by decide +kernel
theorem dX6_isBook_43 : decode cX6_isBook 43 = .ok (.goto (-41), 3) := by decide +kernel
theorem dX6_isBook_46 : decode cX6_isBook 46 = .ok (.iconst 1, 1) := by decide +kernel
theorem dX6_isBook_47 : decode cX6_isBook 47 = .ok (.ireturn, 1) := by decide +kernel
theorem dX6_read_0 : decode cX6_read 0 = .ok (.aload_n 0, 1) := by decide +kernel
theorem dX6_read_1 : decode cX6_read 1 = .ok (.iload_n 1, 1) := by decide +kernel
theorem dX6_read_2 : decode cX6_read 2 = .ok (.iload_n 2, 1) := by decide +kernel
theorem dX6_read_3 : decode cX6_read 3 = .ok (.invokevirtual 297, 3) := by decide +kernel
theorem dX6_read_6 : decode cX6_read 6 = .ok (.istore_n 3, 1) := by decide +kernel
theorem dX6_read_7 : decode cX6_read 7 = .ok (.iload_n 3, 1) := by decide +kernel
theorem dX6_read_8 : decode cX6_read 8 = .ok (.ifCond .eq 9, 3) := by decide +kernel
theorem dX6_read_11 : decode cX6_read 11 = .ok (.aload_n 0, 1) := by decide +kernel
theorem dX6_read_12 : decode cX6_read 12 = .ok (.iload_n 3, 1) := by decide +kernel
theorem dX6_read_13 : decode cX6_read 13 = .ok (.invokevirtual 59, 3) := by decide +kernel
theorem dX6_read_16 : decode cX6_read 16 = .ok (.ireturn, 1) := by decide +kernel
theorem dX6_read_17 : decode cX6_read 17 = .ok (.aload_n 0, 1) := by decide +kernel
theorem dX6_read_18 : decode cX6_read 18 = .ok (.invokevirtual 149, 3) := by decide +kernel
theorem dX6_read_21 : decode cX6_read 21 = .ok (.iconst 0, 1) := by decide +kernel
theorem dX6_read_22 : decode cX6_read 22 = .ok (.istore 4, 2) := by decide +kernel
theorem dX6_read_24 : decode cX6_read 24 = .ok (.iconst 0, 1) := by decide +kernel
theorem dX6_read_25 : decode cX6_read 25 = .ok (.istore 5, 2) := by decide +kernel
theorem dX6_read_27 : decode cX6_read 27 = .ok (.iload 5, 2) := by decide +kernel
theorem dX6_read_29 : decode cX6_read 29 = .ok (.aload_n 0, 1) := by decide +kernel
theorem dX6_read_30 : decode cX6_read 30 = .ok (.getfield 7, 3) := by decide +kernel
theorem dX6_read_33 : decode cX6_read 33 = .ok (.iconst 0, 1) := by decide +kernel
theorem dX6_read_34 : decode cX6_read 34 = .ok (.iaload, 1) := by decide +kernel
theorem dX6_read_35 : decode cX6_read 35 = .ok (.if_icmp .ge 72, 3) := by decide +kernel
theorem dX6_read_38 : decode cX6_read 38 = .ok (.iconst (-1), 1) := by decide +kernel
theorem dX6_read_39 : decode cX6_read 39 = .ok (.istore 6, 2) := by decide +kernel
theorem dX6_read_41 : decode cX6_read 41 = .ok (.iload 6, 2) := by decide +kernel
theorem dX6_read_43 : decode cX6_read 43 = .ok (.aload_n 0, 1) := by decide +kernel
theorem dX6_read_44 : decode cX6_read 44 = .ok (.getfield 7, 3) := by decide +kernel
theorem dX6_read_47 : decode cX6_read 47 = .ok (.iconst 0, 1) := by decide +kernel
theorem dX6_read_48 : decode cX6_read 48 = .ok (.iaload, 1) := by decide +kernel
theorem dX6_read_49 : decode cX6_read 49 = .ok (.if_icmp .ge 52, 3) := by decide +kernel
theorem dX6_read_52 : decode cX6_read 52 = .ok (.aload_n 0, 1) := by decide +kernel
theorem dX6_read_53 : decode cX6_read 53 = .ok (.getfield 7, 3) := by decide +kernel
theorem dX6_read_56 : decode cX6_read 56 = .ok (.iconst 4, 1) := by decide +kernel
theorem dX6_read_57 : decode cX6_read 57 = .ok (.iload 5, 2) := by decide +kernel
theorem dX6_read_59 : decode cX6_read 59 = .ok (.iastore, 1) := by decide +kernel
theorem dX6_read_60 : decode cX6_read 60 = .ok (.aload_n 0, 1) := by decide +kernel
theorem dX6_read_61 : decode cX6_read 61 = .ok (.getfield 7, 3) := by decide +kernel
theorem dX6_read_64 : decode cX6_read 64 = .ok (.iload_n 2, 1) := by decide +kernel
theorem dX6_read_65 : decode cX6_read 65 = .ok (.iconst 1, 1) := by decide +kernel
theorem dX6_read_66 : decode cX6_read 66 = .ok (.invokestatic 52, 3) := by decide +kernel
theorem dX6_read_69 : decode cX6_read 69 = .ok (.iload 6, 2) := by decide +kernel
theorem dX6_read_71 : decode cX6_read 71 = .ok (.iastore, 1) := by decide +kernel
theorem dX6_read_72 : decode cX6_read 72 = .ok (.aload_n 0, 1) := by decide +kernel
theorem dX6_read_73 : decode cX6_read 73 = .ok (.iload 4, 2) := by decide +kernel
theorem dX6_read_75 : decode cX6_read 75 = .ok (.aload_n 0, 1) := by decide +kernel
theorem dX6_read_76 : decode cX6_read 76 = .ok (.iload_n 1, 1) := by decide +kernel
theorem dX6_read_77 : decode cX6_read 77 = .ok (.iload_n 2, 1) := by decide +kernel
theorem dX6_read_78 : decode cX6_read 78 = .ok (.invokevirtual 300, 3) := by decide +kernel
theorem dX6_read_81 : decode cX6_read 81 = .ok (.ifCond .eq 7, 3) := by decide +kernel
theorem dX6_read_84 : decode cX6_read 84 = .ok (.iconst 1, 1) := by decide +kernel
theorem dX6_read_85 : decode cX6_read 85 = .ok (.goto 4, 3) := by decide +kernel
theorem dX6_read_88 : decode cX6_read 88 = .ok (.iconst 0, 1) := by decide +kernel
theorem dX6_read_89 : decode cX6_read 89 = .ok (.iadd, 1) := by decide +kernel
theorem dX6_read_90 : decode cX6_read 90 = .ok (.invokevirtual 152, 3) := by decide +kernel
theorem dX6_read_93 : decode cX6_read 93 = .ok (.istore 4, 2) := by decide +kernel
theorem dX6_read_95 : decode cX6_read 95 = .ok (.iinc 6 1, 3) := by decide +kernel
theorem dX6_read_98 : decode cX6_read 98 = .ok (.goto (-57), 3) := by decide +kernel
theorem dX6_read_101 : decode cX6_read 101 = .ok (.iinc 5 1, 3) := by decide +kernel
theorem dX6_read_104 : decode cX6_read 104 = .ok (.goto (-77), 3) := by decide +kernel
theorem dX6_read_107 : decode cX6_read 107 = .ok (.iload 4, 2) := by decide +kernel
theorem dX6_read_109 : decode cX6_read 109 = .ok (.ireturn, 1) := by decide +kernel
theorem dX6_image_0 : decode cX6_image 0 = .ok (.iconst 0, 1) := by decide +kernel
theorem dX6_image_1 : decode cX6_image 1 = .ok (.istore_n 1, 1) := by decide +kernel
theorem dX6_image_2 : decode cX6_image 2 = .ok (.iload_n 1, 1) := by decide +kernel
theorem dX6_image_3 : decode cX6_image 3 = .ok (.bipush 61, 2) := by decide +kernel
theorem dX6_image_5 : decode cX6_image 5 = .ok (.if_icmp .ge 21, 3) := by decide +kernel
theorem dX6_image_8 : decode cX6_image 8 = .ok (.aload_n 0, 1) := by decide +kernel
theorem dX6_image_9 : decode cX6_image 9 = .ok (.getfield 13, 3) := by decide +kernel
theorem dX6_image_12 : decode cX6_image 12 = .ok (.iload_n 1, 1) := by decide +kernel
theorem dX6_image_13 : decode cX6_image 13 = .ok (.aload_n 0, 1) := by decide +kernel
theorem dX6_image_14 : decode cX6_image 14 = .ok (.getfield 7, 3) := by decide +kernel
theorem dX6_image_17 : decode cX6_image 17 = .ok (.iload_n 1, 1) := by decide +kernel
theorem dX6_image_18 : decode cX6_image 18 = .ok (.iaload, 1) := by decide +kernel
theorem dX6_image_19 : decode cX6_image 19 = .ok (.iastore, 1) := by decide +kernel
theorem dX6_image_20 : decode cX6_image 20 = .ok (.iinc 1 1, 3) := by decide +kernel
theorem dX6_image_23 : decode cX6_image 23 = .ok (.goto (-21), 3) := by decide +kernel
theorem dX6_image_26 : decode cX6_image 26 = .ok (.aload_n 0, 1) := by decide +kernel
theorem dX6_image_27 : decode cX6_image 27 = .ok (.iconst 1, 1) := by decide +kernel
theorem dX6_image_28 : decode cX6_image 28 = .ok (.putfield 303, 3) := by decide +kernel
theorem dX6_image_31 : decode cX6_image 31 = .ok (.iconst 1, 1) := by decide +kernel
theorem dX6_image_32 : decode cX6_image 32 = .ok (.ireturn, 1) := by decide +kernel
theorem dX6_undo_0 : decode cX6_undo 0 = .ok (.aload_n 0, 1) := by decide +kernel
theorem dX6_undo_1 : decode cX6_undo 1 = .ok (.getfield 303, 3) := by decide +kernel
theorem dX6_undo_4 : decode cX6_undo 4 = .ok (.ifCond .ne 10, 3) := by decide +kernel
theorem dX6_undo_7 : decode cX6_undo 7 = .ok (.aload_n 0, 1) := by decide +kernel
theorem dX6_undo_8 : decode cX6_undo 8 = .ok (.ldc 158, 2) := by decide +kernel
theorem dX6_undo_10 : decode cX6_undo 10 = .ok (.invokevirtual 59, 3) := by decide +kernel
theorem dX6_undo_13 : decode cX6_undo 13 = .ok (.ireturn, 1) := by decide +kernel
theorem dX6_undo_14 : decode cX6_undo 14 = .ok (.iconst 0, 1) := by decide +kernel
theorem dX6_undo_15 : decode cX6_undo 15 = .ok (.istore_n 1, 1) := by decide +kernel
theorem dX6_undo_16 : decode cX6_undo 16 = .ok (.iload_n 1, 1) := by decide +kernel
theorem dX6_undo_17 : decode cX6_undo 17 = .ok (.bipush 61, 2) := by decide +kernel
theorem dX6_undo_19 : decode cX6_undo 19 = .ok (.if_icmp .ge 21, 3) := by decide +kernel
theorem dX6_undo_22 : decode cX6_undo 22 = .ok (.aload_n 0, 1) := by decide +kernel
theorem dX6_undo_23 : decode cX6_undo 23 = .ok (.getfield 7, 3) := by decide +kernel
theorem dX6_undo_26 : decode cX6_undo 26 = .ok (.iload_n 1, 1) := by decide +kernel
theorem dX6_undo_27 : decode cX6_undo 27 = .ok (.aload_n 0, 1) := by decide +kernel
theorem dX6_undo_28 : decode cX6_undo 28 = .ok (.getfield 13, 3) := by decide +kernel
theorem dX6_undo_31 : decode cX6_undo 31 = .ok (.iload_n 1, 1) := by decide +kernel
theorem dX6_undo_32 : decode cX6_undo 32 = .ok (.iaload, 1) := by decide +kernel
theorem dX6_undo_33 : decode cX6_undo 33 = .ok (.iastore, 1) := by decide +kernel
theorem dX6_undo_34 : decode cX6_undo 34 = .ok (.iinc 1 1, 3) := by decide +kernel
theorem dX6_undo_37 : decode cX6_undo 37 = .ok (.goto (-21), 3) := by decide +kernel
theorem dX6_undo_40 : decode cX6_undo 40 = .ok (.aload_n 0, 1) := by decide +kernel
theorem dX6_undo_41 : decode cX6_undo 41 = .ok (.getfield 7, 3) := by decide +kernel
theorem dX6_undo_44 : decode cX6_undo 44 = .ok (.iconst 0, 1) := by decide +kernel
theorem dX6_undo_45 : decode cX6_undo 45 = .ok (.iaload, 1) := by decide +kernel
theorem dX6_undo_46 : decode cX6_undo 46 = .ok (.ireturn, 1) := by decide +kernel
theorem dX6_tear_0 : decode cX6_tear 0 = .ok (.aload_n 0, 1) := by decide +kernel
theorem dX6_tear_1 : decode cX6_tear 1 = .ok (.getfield 303, 3) := by decide +kernel
theorem dX6_tear_4 : decode cX6_tear 4 = .ok (.ifCond .eq 7, 3) := by decide +kernel
theorem dX6_tear_7 : decode cX6_tear 7 = .ok (.iconst 1, 1) := by decide +kernel
theorem dX6_tear_8 : decode cX6_tear 8 = .ok (.goto 4, 3) := by decide +kernel
theorem dX6_tear_11 : decode cX6_tear 11 = .ok (.iconst 0, 1) := by decide +kernel
theorem dX6_tear_12 : decode cX6_tear 12 = .ok (.istore_n 1, 1) := by decide +kernel
theorem dX6_tear_13 : decode cX6_tear 13 = .ok (.aload_n 0, 1) := by decide +kernel
theorem dX6_tear_14 : decode cX6_tear 14 = .ok (.iconst 0, 1) := by decide +kernel
theorem dX6_tear_15 : decode cX6_tear 15 = .ok (.putfield 303, 3) := by decide +kernel
theorem dX6_tear_18 : decode cX6_tear 18 = .ok (.iload_n 1, 1) := by decide +kernel
theorem dX6_tear_19 : decode cX6_tear 19 = .ok (.ireturn, 1) := by decide +kernel
theorem dX6_count_0 : decode cX6_count 0 = .ok (.iload_n 1, 1) := by decide +kernel
theorem dX6_count_1 : decode cX6_count 1 = .ok (.tableswitch 56 0 3 #[31, 38, 43, 50], 31) := by decide +kernel
theorem dX6_count_32 : decode cX6_count 32 = .ok (.aload_n 0, 1) := by decide +kernel
theorem dX6_count_33 : decode cX6_count 33 = .ok (.getfield 7, 3) := by decide +kernel
theorem dX6_count_36 : decode cX6_count 36 = .ok (.iconst 0, 1) := by decide +kernel
theorem dX6_count_37 : decode cX6_count 37 = .ok (.iaload, 1) := by decide +kernel
theorem dX6_count_38 : decode cX6_count 38 = .ok (.ireturn, 1) := by decide +kernel
theorem dX6_count_39 : decode cX6_count 39 = .ok (.aload_n 0, 1) := by decide +kernel
theorem dX6_count_40 : decode cX6_count 40 = .ok (.getfield 182, 3) := by decide +kernel
theorem dX6_count_43 : decode cX6_count 43 = .ok (.ireturn, 1) := by decide +kernel
theorem dX6_count_44 : decode cX6_count 44 = .ok (.aload_n 0, 1) := by decide +kernel
theorem dX6_count_45 : decode cX6_count 45 = .ok (.getfield 7, 3) := by decide +kernel
theorem dX6_count_48 : decode cX6_count 48 = .ok (.iconst 1, 1) := by decide +kernel
theorem dX6_count_49 : decode cX6_count 49 = .ok (.iaload, 1) := by decide +kernel
theorem dX6_count_50 : decode cX6_count 50 = .ok (.ireturn, 1) := by decide +kernel
theorem dX6_count_51 : decode cX6_count 51 = .ok (.aload_n 0, 1) := by decide +kernel
theorem dX6_count_52 : decode cX6_count 52 = .ok (.iconst 2, 1) := by decide +kernel
theorem dX6_count_53 : decode cX6_count 53 = .ok (.invokevirtual 146, 3) := by decide +kernel
theorem dX6_count_56 : decode cX6_count 56 = .ok (.ireturn, 1) := by decide +kernel
theorem dX6_count_57 : decode cX6_count 57 = .ok (.aload_n 0, 1) := by decide +kernel
theorem dX6_count_58 : decode cX6_count 58 = .ok (.ldc 41, 2) := by decide +kernel
theorem dX6_count_60 : decode cX6_count 60 = .ok (.invokevirtual 59, 3) := by decide +kernel
theorem dX6_count_63 : decode cX6_count 63 = .ok (.ireturn, 1) := by decide +kernel
theorem dX6_status_0 : decode cX6_status 0 = .ok (.iload_n 1, 1) := by decide +kernel
theorem dX6_status_1 : decode cX6_status 1 = .ok (.i2l, 1) := by decide +kernel
theorem dX6_status_2 : decode cX6_status 2 = .ok (.ldc2_w 306, 3) := by decide +kernel
theorem dX6_status_5 : decode cX6_status 5 = .ok (.ldc2_w 308, 3) := by decide +kernel
theorem dX6_status_8 : decode cX6_status 8 = .ok (.invokestatic 42, 3) := by decide +kernel
theorem dX6_status_11 : decode cX6_status 11 = .ok (.ifCond .ne 10, 3) := by decide +kernel
theorem dX6_status_14 : decode cX6_status 14 = .ok (.aload_n 0, 1) := by decide +kernel
theorem dX6_status_15 : decode cX6_status 15 = .ok (.ldc 41, 2) := by decide +kernel
theorem dX6_status_17 : decode cX6_status 17 = .ok (.invokevirtual 59, 3) := by decide +kernel
theorem dX6_status_20 : decode cX6_status 20 = .ok (.ireturn, 1) := by decide +kernel
theorem dX6_status_21 : decode cX6_status 21 = .ok (.iconst 0, 1) := by decide +kernel
theorem dX6_status_22 : decode cX6_status 22 = .ok (.istore_n 2, 1) := by decide +kernel
theorem dX6_status_23 : decode cX6_status 23 = .ok (.iconst 0, 1) := by decide +kernel
theorem dX6_status_24 : decode cX6_status 24 = .ok (.istore_n 3, 1) := by decide +kernel
theorem dX6_status_25 : decode cX6_status 25 = .ok (.iload_n 3, 1) := by decide +kernel
theorem dX6_status_26 : decode cX6_status 26 = .ok (.bipush 7, 2) := by decide +kernel
theorem dX6_status_28 : decode cX6_status 28 = .ok (.if_icmp .ge 31, 3) := by decide +kernel
theorem dX6_status_31 : decode cX6_status 31 = .ok (.iload_n 2, 1) := by decide +kernel
theorem dX6_status_32 : decode cX6_status 32 = .ok (.iload_n 1, 1) := by decide +kernel
theorem dX6_status_33 : decode cX6_status 33 = .ok (.ifCond .lt 8, 3) := by decide +kernel
theorem dX6_status_36 : decode cX6_status 36 = .ok (.iload_n 3, 1) := by decide +kernel
theorem dX6_status_37 : decode cX6_status 37 = .ok (.iload_n 1, 1) := by decide +kernel
theorem dX6_status_38 : decode cX6_status 38 = .ok (.if_icmp .ne 12, 3) := by decide +kernel
theorem dX6_status_41 : decode cX6_status 41 = .ok (.aload_n 0, 1) := by decide +kernel
theorem dX6_status_42 : decode cX6_status 42 = .ok (.getfield 22, 3) := by decide +kernel
theorem dX6_status_45 : decode cX6_status 45 = .ok (.iload_n 3, 1) := by decide +kernel
theorem dX6_status_46 : decode cX6_status 46 = .ok (.iaload, 1) := by decide +kernel
theorem dX6_status_47 : decode cX6_status 47 = .ok (.goto 4, 3) := by decide +kernel
theorem dX6_status_50 : decode cX6_status 50 = .ok (.iconst 0, 1) := by decide +kernel
theorem dX6_status_51 : decode cX6_status 51 = .ok (.iadd, 1) := by decide +kernel
theorem dX6_status_52 : decode cX6_status 52 = .ok (.istore_n 2, 1) := by decide +kernel
theorem dX6_status_53 : decode cX6_status 53 = .ok (.iinc 3 1, 3) := by decide +kernel
theorem dX6_status_56 : decode cX6_status 56 = .ok (.goto (-31), 3) := by decide +kernel
theorem dX6_status_59 : decode cX6_status 59 = .ok (.iload_n 2, 1) := by decide +kernel
theorem dX6_status_60 : decode cX6_status 60 = .ok (.ireturn, 1) := by decide +kernel
