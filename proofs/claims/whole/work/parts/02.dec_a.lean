/-! printed: decode rows -/
theorem dX0_init_0 : decode cX0_init 0 = .ok (.aload_n 0, 1) := by decide +kernel
theorem dX0_init_1 : decode cX0_init 1 = .ok (.invokespecial 3, 3) := by decide +kernel
theorem dX0_init_4 : decode cX0_init 4 = .ok (.aload_n 0, 1) := by decide +kernel
theorem dX0_init_5 : decode cX0_init 5 = .ok (.iconst 5, 1) := by decide +kernel
theorem dX0_init_6 : decode cX0_init 6 = .ok (.newarray .int, 2) := by decide +kernel
theorem dX0_init_8 : decode cX0_init 8 = .ok (.putfield 11, 3) := by decide +kernel
theorem dX0_init_11 : decode cX0_init 11 = .ok (.return_, 1) := by decide +kernel
theorem dX0_isField_0 : decode cX0_isField 0 = .ok (.iload_n 0, 1) := by decide +kernel
theorem dX0_isField_1 : decode cX0_isField 1 = .ok (.ifCond .lt 12, 3) := by decide +kernel
theorem dX0_isField_4 : decode cX0_isField 4 = .ok (.iload_n 0, 1) := by decide +kernel
theorem dX0_isField_5 : decode cX0_isField 5 = .ok (.iconst 5, 1) := by decide +kernel
theorem dX0_isField_6 : decode cX0_isField 6 = .ok (.if_icmp .ge 7, 3) := by decide +kernel
theorem dX0_isField_9 : decode cX0_isField 9 = .ok (.iconst 1, 1) := by decide +kernel
theorem dX0_isField_10 : decode cX0_isField 10 = .ok (.goto 4, 3) := by decide +kernel
theorem dX0_isField_13 : decode cX0_isField 13 = .ok (.iconst 0, 1) := by decide +kernel
theorem dX0_isField_14 : decode cX0_isField 14 = .ok (.ireturn, 1) := by decide +kernel
theorem dX0_allows_0 : decode cX0_allows 0 = .ok (.iload_n 0, 1) := by decide +kernel
theorem dX0_allows_1 : decode cX0_allows 1 = .ok (.invokestatic 15, 3) := by decide +kernel
theorem dX0_allows_4 : decode cX0_allows 4 = .ok (.ifCond .eq 25, 3) := by decide +kernel
theorem dX0_allows_7 : decode cX0_allows 7 = .ok (.iload_n 1, 1) := by decide +kernel
theorem dX0_allows_8 : decode cX0_allows 8 = .ok (.getstatic 19, 3) := by decide +kernel
theorem dX0_allows_11 : decode cX0_allows 11 = .ok (.iload_n 0, 1) := by decide +kernel
theorem dX0_allows_12 : decode cX0_allows 12 = .ok (.iaload, 1) := by decide +kernel
theorem dX0_allows_13 : decode cX0_allows 13 = .ok (.if_icmp .lt 16, 3) := by decide +kernel
theorem dX0_allows_16 : decode cX0_allows 16 = .ok (.iload_n 1, 1) := by decide +kernel
theorem dX0_allows_17 : decode cX0_allows 17 = .ok (.getstatic 22, 3) := by decide +kernel
theorem dX0_allows_20 : decode cX0_allows 20 = .ok (.iload_n 0, 1) := by decide +kernel
theorem dX0_allows_21 : decode cX0_allows 21 = .ok (.iaload, 1) := by decide +kernel
theorem dX0_allows_22 : decode cX0_allows 22 = .ok (.if_icmp .gt 7, 3) := by decide +kernel
theorem dX0_allows_25 : decode cX0_allows 25 = .ok (.iconst 1, 1) := by decide +kernel
theorem dX0_allows_26 : decode cX0_allows 26 = .ok (.goto 4, 3) := by decide +kernel
theorem dX0_allows_29 : decode cX0_allows 29 = .ok (.iconst 0, 1) := by decide +kernel
theorem dX0_allows_30 : decode cX0_allows 30 = .ok (.ireturn, 1) := by decide +kernel
theorem dX0_least_0 : decode cX0_least 0 = .ok (.iload_n 0, 1) := by decide +kernel
theorem dX0_least_1 : decode cX0_least 1 = .ok (.invokestatic 15, 3) := by decide +kernel
theorem dX0_least_4 : decode cX0_least 4 = .ok (.ifCond .eq 11, 3) := by decide +kernel
theorem dX0_least_7 : decode cX0_least 7 = .ok (.getstatic 19, 3) := by decide +kernel
theorem dX0_least_10 : decode cX0_least 10 = .ok (.iload_n 0, 1) := by decide +kernel
theorem dX0_least_11 : decode cX0_least 11 = .ok (.iaload, 1) := by decide +kernel
theorem dX0_least_12 : decode cX0_least 12 = .ok (.goto 4, 3) := by decide +kernel
theorem dX0_least_15 : decode cX0_least 15 = .ok (.iconst 0, 1) := by decide +kernel
theorem dX0_least_16 : decode cX0_least 16 = .ok (.ireturn, 1) := by decide +kernel
theorem dX0_greatest_0 : decode cX0_greatest 0 = .ok (.iload_n 0, 1) := by decide +kernel
theorem dX0_greatest_1 : decode cX0_greatest 1 = .ok (.invokestatic 15, 3) := by decide +kernel
theorem dX0_greatest_4 : decode cX0_greatest 4 = .ok (.ifCond .eq 11, 3) := by decide +kernel
theorem dX0_greatest_7 : decode cX0_greatest 7 = .ok (.getstatic 22, 3) := by decide +kernel
theorem dX0_greatest_10 : decode cX0_greatest 10 = .ok (.iload_n 0, 1) := by decide +kernel
theorem dX0_greatest_11 : decode cX0_greatest 11 = .ok (.iaload, 1) := by decide +kernel
theorem dX0_greatest_12 : decode cX0_greatest 12 = .ok (.goto 4, 3) := by decide +kernel
theorem dX0_greatest_15 : decode cX0_greatest 15 = .ok (.iconst 0, 1) := by decide +kernel
theorem dX0_greatest_16 : decode cX0_greatest 16 = .ok (.ireturn, 1) := by decide +kernel
theorem dX0_startAs_0 : decode cX0_startAs 0 = .ok (.getstatic 25, 3) := by decide +kernel
theorem dX0_startAs_3 : decode cX0_startAs 3 = .ok (.iconst 0, 1) := by decide +kernel
theorem dX0_startAs_4 : decode cX0_startAs 4 = .ok (.aload_n 0, 1) := by decide +kernel
theorem dX0_startAs_5 : decode cX0_startAs 5 = .ok (.getfield 11, 3) := by decide +kernel
theorem dX0_startAs_8 : decode cX0_startAs 8 = .ok (.iconst 0, 1) := by decide +kernel
theorem dX0_startAs_9 : decode cX0_startAs 9 = .ok (.iconst 5, 1) := by decide +kernel
theorem dX0_startAs_10 : decode cX0_startAs 10 = .ok (.invokestatic 28, 3) := by decide +kernel
theorem dX0_startAs_13 : decode cX0_startAs 13 = .ok (.aload_n 0, 1) := by decide +kernel
theorem dX0_startAs_14 : decode cX0_startAs 14 = .ok (.getfield 11, 3) := by decide +kernel
theorem dX0_startAs_17 : decode cX0_startAs 17 = .ok (.iconst 0, 1) := by decide +kernel
theorem dX0_startAs_18 : decode cX0_startAs 18 = .ok (.iload_n 1, 1) := by decide +kernel
theorem dX0_startAs_19 : decode cX0_startAs 19 = .ok (.iastore, 1) := by decide +kernel
theorem dX0_startAs_20 : decode cX0_startAs 20 = .ok (.return_, 1) := by decide +kernel
theorem dX0_become_0 : decode cX0_become 0 = .ok (.aload_n 1, 1) := by decide +kernel
theorem dX0_become_1 : decode cX0_become 1 = .ok (.getfield 11, 3) := by decide +kernel
theorem dX0_become_4 : decode cX0_become 4 = .ok (.iconst 0, 1) := by decide +kernel
theorem dX0_become_5 : decode cX0_become 5 = .ok (.aload_n 0, 1) := by decide +kernel
theorem dX0_become_6 : decode cX0_become 6 = .ok (.getfield 11, 3) := by decide +kernel
theorem dX0_become_9 : decode cX0_become 9 = .ok (.iconst 0, 1) := by decide +kernel
theorem dX0_become_10 : decode cX0_become 10 = .ok (.iconst 5, 1) := by decide +kernel
theorem dX0_become_11 : decode cX0_become 11 = .ok (.invokestatic 28, 3) := by decide +kernel
theorem dX0_become_14 : decode cX0_become 14 = .ok (.return_, 1) := by decide +kernel
theorem dX0_value_0 : decode cX0_value 0 = .ok (.iload_n 1, 1) := by decide +kernel
theorem dX0_value_1 : decode cX0_value 1 = .ok (.invokestatic 15, 3) := by decide +kernel
theorem dX0_value_4 : decode cX0_value 4 = .ok (.ifCond .eq 12, 3) := by decide +kernel
theorem dX0_value_7 : decode cX0_value 7 = .ok (.aload_n 0, 1) := by decide +kernel
theorem dX0_value_8 : decode cX0_value 8 = .ok (.getfield 11, 3) := by decide +kernel
theorem dX0_value_11 : decode cX0_value 11 = .ok (.iload_n 1, 1) := by decide +kernel
theorem dX0_value_12 : decode cX0_value 12 = .ok (.iaload, 1) := by decide +kernel
theorem dX0_value_13 : decode cX0_value 13 = .ok (.goto 4, 3) := by decide +kernel
theorem dX0_value_16 : decode cX0_value 16 = .ok (.iconst 0, 1) := by decide +kernel
theorem dX0_value_17 : decode cX0_value 17 = .ok (.ireturn, 1) := by decide +kernel
theorem dX0_change_0 : decode cX0_change 0 = .ok (.iload_n 1, 1) := by decide +kernel
theorem dX0_change_1 : decode cX0_change 1 = .ok (.iload_n 2, 1) := by decide +kernel
theorem dX0_change_2 : decode cX0_change 2 = .ok (.invokestatic 34, 3) := by decide +kernel
theorem dX0_change_5 : decode cX0_change 5 = .ok (.ifCond .ne 5, 3) := by decide +kernel
theorem dX0_change_8 : decode cX0_change 8 = .ok (.iconst 0, 1) := by decide +kernel
theorem dX0_change_9 : decode cX0_change 9 = .ok (.ireturn, 1) := by decide +kernel
theorem dX0_change_10 : decode cX0_change 10 = .ok (.aload_n 0, 1) := by decide +kernel
theorem dX0_change_11 : decode cX0_change 11 = .ok (.getfield 11, 3) := by decide +kernel
theorem dX0_change_14 : decode cX0_change 14 = .ok (.iload_n 1, 1) := by decide +kernel
theorem dX0_change_15 : decode cX0_change 15 = .ok (.iaload, 1) := by decide +kernel
theorem dX0_change_16 : decode cX0_change 16 = .ok (.istore_n 3, 1) := by decide +kernel
theorem dX0_change_17 : decode cX0_change 17 = .ok (.aload_n 0, 1) := by decide +kernel
theorem dX0_change_18 : decode cX0_change 18 = .ok (.getfield 11, 3) := by decide +kernel
theorem dX0_change_21 : decode cX0_change 21 = .ok (.iload_n 1, 1) := by decide +kernel
theorem dX0_change_22 : decode cX0_change 22 = .ok (.iload_n 2, 1) := by decide +kernel
theorem dX0_change_23 : decode cX0_change 23 = .ok (.iastore, 1) := by decide +kernel
theorem dX0_change_24 : decode cX0_change 24 = .ok (.iload_n 3, 1) := by decide +kernel
theorem dX0_change_25 : decode cX0_change 25 = .ok (.ireturn, 1) := by decide +kernel
theorem dX0_isOfKind_0 : decode cX0_isOfKind 0 = .ok (.aload_n 0, 1) := by decide +kernel
theorem dX0_isOfKind_1 : decode cX0_isOfKind 1 = .ok (.getfield 11, 3) := by decide +kernel
theorem dX0_isOfKind_4 : decode cX0_isOfKind 4 = .ok (.iconst 0, 1) := by decide +kernel
theorem dX0_isOfKind_5 : decode cX0_isOfKind 5 = .ok (.iaload, 1) := by decide +kernel
theorem dX0_isOfKind_6 : decode cX0_isOfKind 6 = .ok (.istore_n 2, 1) := by decide +kernel
theorem dX0_isOfKind_7 : decode cX0_isOfKind 7 = .ok (.iload_n 2, 1) := by decide +kernel
theorem dX0_isOfKind_8 : decode cX0_isOfKind 8 = .ok (.iload_n 1, 1) := by decide +kernel
theorem dX0_isOfKind_9 : decode cX0_isOfKind 9 = .ok (.if_icmp .eq 7, 3) := by decide +kernel
theorem dX0_isOfKind_12 : decode cX0_isOfKind 12 = .ok (.iload_n 1, 1) := by decide +kernel
theorem dX0_isOfKind_13 : decode cX0_isOfKind 13 = .ok (.ifCond .ne 5, 3) := by decide +kernel
theorem dX0_isOfKind_16 : decode cX0_isOfKind 16 = .ok (.iconst 1, 1) := by decide +kernel
theorem dX0_isOfKind_17 : decode cX0_isOfKind 17 = .ok (.ireturn, 1) := by decide +kernel
theorem dX0_isOfKind_18 : decode cX0_isOfKind 18 = .ok (.iload_n 2, 1) := by decide +kernel
theorem dX0_isOfKind_19 : decode cX0_isOfKind 19 = .ok (.iconst 4, 1) := by decide +kernel
theorem dX0_isOfKind_20 : decode cX0_isOfKind 20 = .ok (.if_icmp .ne 8, 3) := by decide +kernel
theorem dX0_isOfKind_23 : decode cX0_isOfKind 23 = .ok (.iload_n 1, 1) := by decide +kernel
theorem dX0_isOfKind_24 : decode cX0_isOfKind 24 = .ok (.iconst 2, 1) := by decide +kernel
theorem dX0_isOfKind_25 : decode cX0_isOfKind 25 = .ok (.if_icmp .eq 13, 3) := by decide +kernel
theorem dX0_isOfKind_28 : decode cX0_isOfKind 28 = .ok (.iload_n 2, 1) := by decide +kernel
theorem dX0_isOfKind_29 : decode cX0_isOfKind 29 = .ok (.iconst 5, 1) := by decide +kernel
theorem dX0_isOfKind_30 : decode cX0_isOfKind 30 = .ok (.if_icmp .ne 12, 3) := by decide +kernel
theorem dX0_isOfKind_33 : decode cX0_isOfKind 33 = .ok (.iload_n 1, 1) := by decide +kernel
theorem dX0_isOfKind_34 : decode cX0_isOfKind 34 = .ok (.iconst 1, 1) := by decide +kernel
theorem dX0_isOfKind_35 : decode cX0_isOfKind 35 = .ok (.if_icmp .ne 7, 3) := by decide +kernel
theorem dX0_isOfKind_38 : decode cX0_isOfKind 38 = .ok (.iconst 1, 1) := by decide +kernel
theorem dX0_isOfKind_39 : decode cX0_isOfKind 39 = .ok (.goto 4, 3) := by decide +kernel
theorem dX0_isOfKind_42 : decode cX0_isOfKind 42 = .ok (.iconst 0, 1) := by decide +kernel
theorem dX0_isOfKind_43 : decode cX0_isOfKind 43 = .ok (.ireturn, 1) := by decide +kernel
theorem dX0_length_0 : decode cX0_length 0 = .ok (.aload_n 0, 1) := by decide +kernel
theorem dX0_length_1 : decode cX0_length 1 = .ok (.getfield 11, 3) := by decide +kernel
theorem dX0_length_4 : decode cX0_length 4 = .ok (.iconst 2, 1) := by decide +kernel
theorem dX0_length_5 : decode cX0_length 5 = .ok (.iaload, 1) := by decide +kernel
theorem dX0_length_6 : decode cX0_length 6 = .ok (.iconst 1, 1) := by decide +kernel
theorem dX0_length_7 : decode cX0_length 7 = .ok (.if_icmp .ge 7, 3) := by decide +kernel
theorem dX0_length_10 : decode cX0_length 10 = .ok (.iconst 1, 1) := by decide +kernel
theorem dX0_length_11 : decode cX0_length 11 = .ok (.goto 9, 3) := by decide +kernel
theorem dX0_length_14 : decode cX0_length 14 = .ok (.aload_n 0, 1) := by decide +kernel
theorem dX0_length_15 : decode cX0_length 15 = .ok (.getfield 11, 3) := by decide +kernel
theorem dX0_length_18 : decode cX0_length 18 = .ok (.iconst 2, 1) := by decide +kernel
theorem dX0_length_19 : decode cX0_length 19 = .ok (.iaload, 1) := by decide +kernel
theorem dX0_length_20 : decode cX0_length 20 = .ok (.ireturn, 1) := by decide +kernel
theorem dX0_runsAt_0 : decode cX0_runsAt 0 = .ok (.iload_n 1, 1) := by decide +kernel
theorem dX0_runsAt_1 : decode cX0_runsAt 1 = .ok (.aload_n 0, 1) := by decide +kernel
theorem dX0_runsAt_2 : decode cX0_runsAt 2 = .ok (.getfield 11, 3) := by decide +kernel
theorem dX0_runsAt_5 : decode cX0_runsAt 5 = .ok (.iconst 1, 1) := by decide +kernel
theorem dX0_runsAt_6 : decode cX0_runsAt 6 = .ok (.iaload, 1) := by decide +kernel
theorem dX0_runsAt_7 : decode cX0_runsAt 7 = .ok (.iadd, 1) := by decide +kernel
theorem dX0_runsAt_8 : decode cX0_runsAt 8 = .ok (.istore_n 2, 1) := by decide +kernel
theorem dX0_runsAt_9 : decode cX0_runsAt 9 = .ok (.aload_n 0, 1) := by decide +kernel
theorem dX0_runsAt_10 : decode cX0_runsAt 10 = .ok (.getfield 11, 3) := by decide +kernel
theorem dX0_runsAt_13 : decode cX0_runsAt 13 = .ok (.iconst 0, 1) := by decide +kernel
theorem dX0_runsAt_14 : decode cX0_runsAt 14 = .ok (.iaload, 1) := by decide +kernel
theorem dX0_runsAt_15 : decode cX0_runsAt 15 = .ok (.tableswitch 68 2 5 #[29, 35, 42, 61], 29) := by decide +kernel
theorem dX0_runsAt_44 : decode cX0_runsAt 44 = .ok (.aload_n 0, 1) := by decide +kernel
theorem dX0_runsAt_45 : decode cX0_runsAt 45 = .ok (.iload_n 1, 1) := by decide +kernel
theorem dX0_runsAt_46 : decode cX0_runsAt 46 = .ok (.invokevirtual 38, 3) := by decide +kernel
theorem dX0_runsAt_49 : decode cX0_runsAt 49 = .ok (.ireturn, 1) := by decide +kernel
theorem dX0_runsAt_50 : decode cX0_runsAt 50 = .ok (.iload_n 2, 1) := by decide +kernel
theorem dX0_runsAt_51 : decode cX0_runsAt 51 = .ok (.iload_n 1, 1) := by decide +kernel
theorem dX0_runsAt_52 : decode cX0_runsAt 52 = .ok (.bipush 7, 2) := by decide +kernel
theorem dX0_runsAt_54 : decode cX0_runsAt 54 = .ok (.idiv, 1) := by decide +kernel
theorem dX0_runsAt_55 : decode cX0_runsAt 55 = .ok (.iadd, 1) := by decide +kernel
theorem dX0_runsAt_56 : decode cX0_runsAt 56 = .ok (.ireturn, 1) := by decide +kernel
theorem dX0_runsAt_57 : decode cX0_runsAt 57 = .ok (.aload_n 0, 1) := by decide +kernel
theorem dX0_runsAt_58 : decode cX0_runsAt 58 = .ok (.iload_n 1, 1) := by decide +kernel
theorem dX0_runsAt_59 : decode cX0_runsAt 59 = .ok (.invokevirtual 38, 3) := by decide +kernel
theorem dX0_runsAt_62 : decode cX0_runsAt 62 = .ok (.aload_n 0, 1) := by decide +kernel
theorem dX0_runsAt_63 : decode cX0_runsAt 63 = .ok (.iload_n 1, 1) := by decide +kernel
theorem dX0_runsAt_64 : decode cX0_runsAt 64 = .ok (.invokevirtual 38, 3) := by decide +kernel
theorem dX0_runsAt_67 : decode cX0_runsAt 67 = .ok (.aload_n 0, 1) := by decide +kernel
theorem dX0_runsAt_68 : decode cX0_runsAt 68 = .ok (.invokevirtual 42, 3) := by decide +kernel
theorem dX0_runsAt_71 : decode cX0_runsAt 71 = .ok (.idiv, 1) := by decide +kernel
theorem dX0_runsAt_72 : decode cX0_runsAt 72 = .ok (.iconst 4, 1) := by decide +kernel
theorem dX0_runsAt_73 : decode cX0_runsAt 73 = .ok (.idiv, 1) := by decide +kernel
theorem dX0_runsAt_74 : decode cX0_runsAt 74 = .ok (.iadd, 1) := by decide +kernel
theorem dX0_runsAt_75 : decode cX0_runsAt 75 = .ok (.ireturn, 1) := by decide +kernel
theorem dX0_runsAt_76 : decode cX0_runsAt 76 = .ok (.iload_n 2, 1) := by decide +kernel
theorem dX0_runsAt_77 : decode cX0_runsAt 77 = .ok (.iload_n 1, 1) := by decide +kernel
theorem dX0_runsAt_78 : decode cX0_runsAt 78 = .ok (.invokestatic 46, 3) := by decide +kernel
theorem dX0_runsAt_81 : decode cX0_runsAt 81 = .ok (.isub, 1) := by decide +kernel
theorem dX0_runsAt_82 : decode cX0_runsAt 82 = .ok (.ireturn, 1) := by decide +kernel
theorem dX0_runsAt_83 : decode cX0_runsAt 83 = .ok (.iload_n 2, 1) := by decide +kernel
theorem dX0_runsAt_84 : decode cX0_runsAt 84 = .ok (.ireturn, 1) := by decide +kernel
theorem dX0_runsAsNew_0 : decode cX0_runsAsNew 0 = .ok (.iload_n 1, 1) := by decide +kernel
theorem dX0_runsAsNew_1 : decode cX0_runsAsNew 1 = .ok (.aload_n 0, 1) := by decide +kernel
theorem dX0_runsAsNew_2 : decode cX0_runsAsNew 2 = .ok (.getfield 11, 3) := by decide +kernel
theorem dX0_runsAsNew_5 : decode cX0_runsAsNew 5 = .ok (.iconst 1, 1) := by decide +kernel
theorem dX0_runsAsNew_6 : decode cX0_runsAsNew 6 = .ok (.iaload, 1) := by decide +kernel
theorem dX0_runsAsNew_7 : decode cX0_runsAsNew 7 = .ok (.iadd, 1) := by decide +kernel
theorem dX0_runsAsNew_8 : decode cX0_runsAsNew 8 = .ok (.iload_n 1, 1) := by decide +kernel
theorem dX0_runsAsNew_9 : decode cX0_runsAsNew 9 = .ok (.aload_n 0, 1) := by decide +kernel
theorem dX0_runsAsNew_10 : decode cX0_runsAsNew 10 = .ok (.getfield 11, 3) := by decide +kernel
theorem dX0_runsAsNew_13 : decode cX0_runsAsNew 13 = .ok (.iconst 4, 1) := by decide +kernel
theorem dX0_runsAsNew_14 : decode cX0_runsAsNew 14 = .ok (.iaload, 1) := by decide +kernel
theorem dX0_runsAsNew_15 : decode cX0_runsAsNew 15 = .ok (.if_icmp .lt 12, 3) := by decide +kernel
theorem dX0_runsAsNew_18 : decode cX0_runsAsNew 18 = .ok (.aload_n 0, 1) := by decide +kernel
theorem dX0_runsAsNew_19 : decode cX0_runsAsNew 19 = .ok (.getfield 11, 3) := by decide +kernel
theorem dX0_runsAsNew_22 : decode cX0_runsAsNew 22 = .ok (.iconst 3, 1) := by decide +kernel
theorem dX0_runsAsNew_23 : decode cX0_runsAsNew 23 = .ok (.iaload, 1) := by decide +kernel
theorem dX0_runsAsNew_24 : decode cX0_runsAsNew 24 = .ok (.goto 4, 3) := by decide +kernel
theorem dX0_runsAsNew_27 : decode cX0_runsAsNew 27 = .ok (.iconst 0, 1) := by decide +kernel
theorem dX0_runsAsNew_28 : decode cX0_runsAsNew 28 = .ok (.iadd, 1) := by decide +kernel
theorem dX0_runsAsNew_29 : decode cX0_runsAsNew 29 = .ok (.ireturn, 1) := by decide +kernel
theorem dX0_jugDaysUpTo_0 : decode cX0_jugDaysUpTo 0 = .ok (.iload_n 0, 1) := by decide +kernel
theorem dX0_jugDaysUpTo_1 : decode cX0_jugDaysUpTo 1 = .ok (.bipush 7, 2) := by decide +kernel
theorem dX0_jugDaysUpTo_3 : decode cX0_jugDaysUpTo 3 = .ok (.iadd, 1) := by decide +kernel
theorem dX0_jugDaysUpTo_4 : decode cX0_jugDaysUpTo 4 = .ok (.iconst 2, 1) := by decide +kernel
theorem dX0_jugDaysUpTo_5 : decode cX0_jugDaysUpTo 5 = .ok (.isub, 1) := by decide +kernel
theorem dX0_jugDaysUpTo_6 : decode cX0_jugDaysUpTo 6 = .ok (.bipush 7, 2) := by decide +kernel
theorem dX0_jugDaysUpTo_8 : decode cX0_jugDaysUpTo 8 = .ok (.idiv, 1) := by decide +kernel
theorem dX0_jugDaysUpTo_9 : decode cX0_jugDaysUpTo 9 = .ok (.ireturn, 1) := by decide +kernel
theorem dX0_dateAt_0 : decode cX0_dateAt 0 = .ok (.aload_n 0, 1) := by decide +kernel
theorem dX0_dateAt_1 : decode cX0_dateAt 1 = .ok (.iload_n 1, 1) := by decide +kernel
theorem dX0_dateAt_2 : decode cX0_dateAt 2 = .ok (.invokevirtual 49, 3) := by decide +kernel
theorem dX0_dateAt_5 : decode cX0_dateAt 5 = .ok (.aload_n 0, 1) := by decide +kernel
theorem dX0_dateAt_6 : decode cX0_dateAt 6 = .ok (.invokevirtual 42, 3) := by decide +kernel
theorem dX0_dateAt_9 : decode cX0_dateAt 9 = .ok (.irem, 1) := by decide +kernel
theorem dX0_dateAt_10 : decode cX0_dateAt 10 = .ok (.iconst 1, 1) := by decide +kernel
theorem dX0_dateAt_11 : decode cX0_dateAt 11 = .ok (.iadd, 1) := by decide +kernel
theorem dX0_dateAt_12 : decode cX0_dateAt 12 = .ok (.ireturn, 1) := by decide +kernel
theorem dX0_monthAt_0 : decode cX0_monthAt 0 = .ok (.aload_n 0, 1) := by decide +kernel
theorem dX0_monthAt_1 : decode cX0_monthAt 1 = .ok (.iload_n 1, 1) := by decide +kernel
theorem dX0_monthAt_2 : decode cX0_monthAt 2 = .ok (.invokevirtual 49, 3) := by decide +kernel
theorem dX0_monthAt_5 : decode cX0_monthAt 5 = .ok (.aload_n 0, 1) := by decide +kernel
theorem dX0_monthAt_6 : decode cX0_monthAt 6 = .ok (.invokevirtual 42, 3) := by decide +kernel
theorem dX0_monthAt_9 : decode cX0_monthAt 9 = .ok (.idiv, 1) := by decide +kernel
theorem dX0_monthAt_10 : decode cX0_monthAt 10 = .ok (.ireturn, 1) := by decide +kernel
theorem dX0_isHoly_0 : decode cX0_isHoly 0 = .ok (.aload_n 0, 1) := by decide +kernel
theorem dX0_isHoly_1 : decode cX0_isHoly 1 = .ok (.iload_n 1, 1) := by decide +kernel
theorem dX0_isHoly_2 : decode cX0_isHoly 2 = .ok (.invokevirtual 49, 3) := by decide +kernel
theorem dX0_isHoly_5 : decode cX0_isHoly 5 = .ok (.istore_n 2, 1) := by decide +kernel
theorem dX0_isHoly_6 : decode cX0_isHoly 6 = .ok (.aload_n 0, 1) := by decide +kernel
theorem dX0_isHoly_7 : decode cX0_isHoly 7 = .ok (.invokevirtual 42, 3) := by decide +kernel
theorem dX0_isHoly_10 : decode cX0_isHoly 10 = .ok (.istore_n 3, 1) := by decide +kernel
theorem dX0_isHoly_11 : decode cX0_isHoly 11 = .ok (.iload_n 2, 1) := by decide +kernel
theorem dX0_isHoly_12 : decode cX0_isHoly 12 = .ok (.iload_n 3, 1) := by decide +kernel
theorem dX0_isHoly_13 : decode cX0_isHoly 13 = .ok (.irem, 1) := by decide +kernel
theorem dX0_isHoly_14 : decode cX0_isHoly 14 = .ok (.iconst 1, 1) := by decide +kernel
theorem dX0_isHoly_15 : decode cX0_isHoly 15 = .ok (.iadd, 1) := by decide +kernel
theorem dX0_isHoly_16 : decode cX0_isHoly 16 = .ok (.istore 4, 2) := by decide +kernel
theorem dX0_isHoly_18 : decode cX0_isHoly 18 = .ok (.aload_n 0, 1) := by decide +kernel
theorem dX0_isHoly_19 : decode cX0_isHoly 19 = .ok (.getfield 11, 3) := by decide +kernel
theorem dX0_isHoly_22 : decode cX0_isHoly 22 = .ok (.iconst 0, 1) := by decide +kernel
theorem dX0_isHoly_23 : decode cX0_isHoly 23 = .ok (.iaload, 1) := by decide +kernel
theorem dX0_isHoly_24 : decode cX0_isHoly 24 = .ok (.tableswitch 85 3 5 #[28, 45, 64], 28) := by decide +kernel
theorem dX0_isHoly_52 : decode cX0_isHoly 52 = .ok (.iload 4, 2) := by decide +kernel
theorem dX0_isHoly_54 : decode cX0_isHoly 54 = .ok (.iload_n 2, 1) := by decide +kernel
theorem dX0_isHoly_55 : decode cX0_isHoly 55 = .ok (.iload_n 3, 1) := by decide +kernel
theorem dX0_isHoly_56 : decode cX0_isHoly 56 = .ok (.idiv, 1) := by decide +kernel
theorem dX0_isHoly_57 : decode cX0_isHoly 57 = .ok (.iadd, 1) := by decide +kernel
theorem dX0_isHoly_58 : decode cX0_isHoly 58 = .ok (.iconst 2, 1) := by decide +kernel
theorem dX0_isHoly_59 : decode cX0_isHoly 59 = .ok (.irem, 1) := by decide +kernel
theorem dX0_isHoly_60 : decode cX0_isHoly 60 = .ok (.ifCond .ne 7, 3) := by decide +kernel
theorem dX0_isHoly_63 : decode cX0_isHoly 63 = .ok (.iconst 1, 1) := by decide +kernel
theorem dX0_isHoly_64 : decode cX0_isHoly 64 = .ok (.goto 4, 3) := by decide +kernel
theorem dX0_isHoly_67 : decode cX0_isHoly 67 = .ok (.iconst 0, 1) := by decide +kernel
theorem dX0_isHoly_68 : decode cX0_isHoly 68 = .ok (.ireturn, 1) := by decide +kernel
theorem dX0_isHoly_69 : decode cX0_isHoly 69 = .ok (.iload 4, 2) := by decide +kernel
theorem dX0_isHoly_71 : decode cX0_isHoly 71 = .ok (.iconst 2, 1) := by decide +kernel
theorem dX0_isHoly_72 : decode cX0_isHoly 72 = .ok (.irem, 1) := by decide +kernel
theorem dX0_isHoly_73 : decode cX0_isHoly 73 = .ok (.ifCond .eq 9, 3) := by decide +kernel
theorem dX0_isHoly_76 : decode cX0_isHoly 76 = .ok (.iload 4, 2) := by decide +kernel
theorem dX0_isHoly_78 : decode cX0_isHoly 78 = .ok (.iconst 1, 1) := by decide +kernel
theorem dX0_isHoly_79 : decode cX0_isHoly 79 = .ok (.if_icmp .ne 7, 3) := by decide +kernel
theorem dX0_isHoly_82 : decode cX0_isHoly 82 = .ok (.iconst 1, 1) := by decide +kernel
theorem dX0_isHoly_83 : decode cX0_isHoly 83 = .ok (.goto 4, 3) := by decide +kernel
theorem dX0_isHoly_86 : decode cX0_isHoly 86 = .ok (.iconst 0, 1) := by decide +kernel
theorem dX0_isHoly_87 : decode cX0_isHoly 87 = .ok (.ireturn, 1) := by decide +kernel
theorem dX0_isHoly_88 : decode cX0_isHoly 88 = .ok (.iload 4, 2) := by decide +kernel
theorem dX0_isHoly_90 : decode cX0_isHoly 90 = .ok (.iconst 2, 1) := by decide +kernel
theorem dX0_isHoly_91 : decode cX0_isHoly 91 = .ok (.irem, 1) := by decide +kernel
theorem dX0_isHoly_92 : decode cX0_isHoly 92 = .ok (.ifCond .ne 15, 3) := by decide +kernel
theorem dX0_isHoly_95 : decode cX0_isHoly 95 = .ok (.iload_n 1, 1) := by decide +kernel
theorem dX0_isHoly_96 : decode cX0_isHoly 96 = .ok (.bipush 7, 2) := by decide +kernel
theorem dX0_isHoly_98 : decode cX0_isHoly 98 = .ok (.irem, 1) := by decide +kernel
theorem dX0_isHoly_99 : decode cX0_isHoly 99 = .ok (.iconst 2, 1) := by decide +kernel
theorem dX0_isHoly_100 : decode cX0_isHoly 100 = .ok (.if_icmp .eq 7, 3) := by decide +kernel
theorem dX0_isHoly_103 : decode cX0_isHoly 103 = .ok (.iconst 1, 1) := by decide +kernel
theorem dX0_isHoly_104 : decode cX0_isHoly 104 = .ok (.goto 4, 3) := by decide +kernel
theorem dX0_isHoly_107 : decode cX0_isHoly 107 = .ok (.iconst 0, 1) := by decide +kernel
theorem dX0_isHoly_108 : decode cX0_isHoly 108 = .ok (.ireturn, 1) := by decide +kernel
theorem dX0_isHoly_109 : decode cX0_isHoly 109 = .ok (.iload 4, 2) := by decide +kernel
theorem dX0_isHoly_111 : decode cX0_isHoly 111 = .ok (.iconst 2, 1) := by decide +kernel
theorem dX0_isHoly_112 : decode cX0_isHoly 112 = .ok (.irem, 1) := by decide +kernel
theorem dX0_isHoly_113 : decode cX0_isHoly 113 = .ok (.ifCond .ne 7, 3) := by decide +kernel
theorem dX0_isHoly_116 : decode cX0_isHoly 116 = .ok (.iconst 1, 1) := by decide +kernel
theorem dX0_isHoly_117 : decode cX0_isHoly 117 = .ok (.goto 4, 3) := by decide +kernel
theorem dX0_isHoly_120 : decode cX0_isHoly 120 = .ok (.iconst 0, 1) := by decide +kernel
theorem dX0_isHoly_121 : decode cX0_isHoly 121 = .ok (.ireturn, 1) := by decide +kernel
theorem dX1_init_0 : decode cX1_init 0 = .ok (.aload_n 0, 1) := by decide +kernel
theorem dX1_init_1 : decode cX1_init 1 = .ok (.invokespecial 3, 3) := by decide +kernel
theorem dX1_init_4 : decode cX1_init 4 = .ok (.return_, 1) := by decide +kernel
theorem dX1_startWith_0 : decode cX1_startWith 0 = .ok (.aload_n 0, 1) := by decide +kernel
theorem dX1_startWith_1 : decode cX1_startWith 1 = .ok (.iload_n 1, 1) := by decide +kernel
theorem dX1_startWith_2 : decode cX1_startWith 2 = .ok (.putfield 9, 3) := by decide +kernel
theorem dX1_startWith_5 : decode cX1_startWith 5 = .ok (.aload_n 0, 1) := by decide +kernel
theorem dX1_startWith_6 : decode cX1_startWith 6 = .ok (.iload_n 2, 1) := by decide +kernel
theorem dX1_startWith_7 : decode cX1_startWith 7 = .ok (.putfield 15, 3) := by decide +kernel
theorem dX1_startWith_10 : decode cX1_startWith 10 = .ok (.aload_n 0, 1) := by decide +kernel
theorem dX1_startWith_11 : decode cX1_startWith 11 = .ok (.iconst 0, 1) := by decide +kernel
theorem dX1_startWith_12 : decode cX1_startWith 12 = .ok (.putfield 18, 3) := by decide +kernel
theorem dX1_startWith_15 : decode cX1_startWith 15 = .ok (.return_, 1) := by decide +kernel
theorem dX1_become_0 : decode cX1_become 0 = .ok (.aload_n 0, 1) := by decide +kernel
theorem dX1_become_1 : decode cX1_become 1 = .ok (.aload_n 1, 1) := by decide +kernel
theorem dX1_become_2 : decode cX1_become 2 = .ok (.getfield 9, 3) := by decide +kernel
theorem dX1_become_5 : decode cX1_become 5 = .ok (.putfield 9, 3) := by decide +kernel
theorem dX1_become_8 : decode cX1_become 8 = .ok (.aload_n 0, 1) := by decide +kernel
theorem dX1_become_9 : decode cX1_become 9 = .ok (.aload_n 1, 1) := by decide +kernel
theorem dX1_become_10 : decode cX1_become 10 = .ok (.getfield 15, 3) := by decide +kernel
theorem dX1_become_13 : decode cX1_become 13 = .ok (.putfield 15, 3) := by decide +kernel
theorem dX1_become_16 : decode cX1_become 16 = .ok (.aload_n 0, 1) := by decide +kernel
theorem dX1_become_17 : decode cX1_become 17 = .ok (.aload_n 1, 1) := by decide +kernel
theorem dX1_become_18 : decode cX1_become 18 = .ok (.getfield 18, 3) := by decide +kernel
theorem dX1_become_21 : decode cX1_become 21 = .ok (.putfield 18, 3) := by decide +kernel
theorem dX1_become_24 : decode cX1_become 24 = .ok (.return_, 1) := by decide +kernel
theorem dX1_takeWater_0 : decode cX1_takeWater 0 = .ok (.aload_n 0, 1) := by decide +kernel
theorem dX1_takeWater_1 : decode cX1_takeWater 1 = .ok (.iload_n 1, 1) := by decide +kernel
theorem dX1_takeWater_2 : decode cX1_takeWater 2 = .ok (.ifCond .eq 16, 3) := by decide +kernel
theorem dX1_takeWater_5 : decode cX1_takeWater 5 = .ok (.iconst 0, 1) := by decide +kernel
theorem dX1_takeWater_6 : decode cX1_takeWater 6 = .ok (.aload_n 0, 1) := by decide +kernel
theorem dX1_takeWater_7 : decode cX1_takeWater 7 = .ok (.getfield 9, 3) := by decide +kernel
theorem dX1_takeWater_10 : decode cX1_takeWater 10 = .ok (.iload_n 2, 1) := by decide +kernel
theorem dX1_takeWater_11 : decode cX1_takeWater 11 = .ok (.isub, 1) := by decide +kernel
theorem dX1_takeWater_12 : decode cX1_takeWater 12 = .ok (.invokestatic 21, 3) := by decide +kernel
theorem dX1_takeWater_15 : decode cX1_takeWater 15 = .ok (.goto 16, 3) := by decide +kernel
theorem dX1_takeWater_18 : decode cX1_takeWater 18 = .ok (.bipush 99, 2) := by decide +kernel
theorem dX1_takeWater_20 : decode cX1_takeWater 20 = .ok (.aload_n 0, 1) := by decide +kernel
theorem dX1_takeWater_21 : decode cX1_takeWater 21 = .ok (.getfield 9, 3) := by decide +kernel
theorem dX1_takeWater_24 : decode cX1_takeWater 24 = .ok (.iload_n 2, 1) := by decide +kernel
theorem dX1_takeWater_25 : decode cX1_takeWater 25 = .ok (.iconst 2, 1) := by decide +kernel
theorem dX1_takeWater_26 : decode cX1_takeWater 26 = .ok (.idiv, 1) := by decide +kernel
theorem dX1_takeWater_27 : decode cX1_takeWater 27 = .ok (.iadd, 1) := by decide +kernel
theorem dX1_takeWater_28 : decode cX1_takeWater 28 = .ok (.invokestatic 27, 3) := by decide +kernel
theorem dX1_takeWater_31 : decode cX1_takeWater 31 = .ok (.putfield 9, 3) := by decide +kernel
theorem dX1_takeWater_34 : decode cX1_takeWater 34 = .ok (.return_, 1) := by decide +kernel
theorem dX1_takeBath_0 : decode cX1_takeBath 0 = .ok (.aload_n 0, 1) := by decide +kernel
theorem dX1_takeBath_1 : decode cX1_takeBath 1 = .ok (.iload_n 1, 1) := by decide +kernel
theorem dX1_takeBath_2 : decode cX1_takeBath 2 = .ok (.iload_n 2, 1) := by decide +kernel
theorem dX1_takeBath_3 : decode cX1_takeBath 3 = .ok (.invokevirtual 30, 3) := by decide +kernel
theorem dX1_takeBath_6 : decode cX1_takeBath 6 = .ok (.aload_n 0, 1) := by decide +kernel
theorem dX1_takeBath_7 : decode cX1_takeBath 7 = .ok (.sipush 9999, 3) := by decide +kernel
theorem dX1_takeBath_10 : decode cX1_takeBath 10 = .ok (.aload_n 0, 1) := by decide +kernel
theorem dX1_takeBath_11 : decode cX1_takeBath 11 = .ok (.getfield 18, 3) := by decide +kernel
theorem dX1_takeBath_14 : decode cX1_takeBath 14 = .ok (.iconst 1, 1) := by decide +kernel
theorem dX1_takeBath_15 : decode cX1_takeBath 15 = .ok (.iadd, 1) := by decide +kernel
theorem dX1_takeBath_16 : decode cX1_takeBath 16 = .ok (.invokestatic 27, 3) := by decide +kernel
theorem dX1_takeBath_19 : decode cX1_takeBath 19 = .ok (.putfield 18, 3) := by decide +kernel
theorem dX1_takeBath_22 : decode cX1_takeBath 22 = .ok (.return_, 1) := by decide +kernel
theorem dX1_passDay_0 : decode cX1_passDay 0 = .ok (.aload_n 0, 1) := by decide +kernel
theorem dX1_passDay_1 : decode cX1_passDay 1 = .ok (.getfield 9, 3) := by decide +kernel
theorem dX1_passDay_4 : decode cX1_passDay 4 = .ok (.ifCond .le 32, 3) := by decide +kernel
theorem dX1_passDay_7 : decode cX1_passDay 7 = .ok (.aload_n 0, 1) := by decide +kernel
theorem dX1_passDay_8 : decode cX1_passDay 8 = .ok (.getfield 15, 3) := by decide +kernel
theorem dX1_passDay_11 : decode cX1_passDay 11 = .ok (.iconst (-1), 1) := by decide +kernel
theorem dX1_passDay_12 : decode cX1_passDay 12 = .ok (.if_icmp .eq 14, 3) := by decide +kernel
theorem dX1_passDay_15 : decode cX1_passDay 15 = .ok (.iload_n 1, 1) := by decide +kernel
theorem dX1_passDay_16 : decode cX1_passDay 16 = .ok (.aload_n 0, 1) := by decide +kernel
theorem dX1_passDay_17 : decode cX1_passDay 17 = .ok (.getfield 15, 3) := by decide +kernel
theorem dX1_passDay_20 : decode cX1_passDay 20 = .ok (.invokestatic 34, 3) := by decide +kernel
theorem dX1_passDay_23 : decode cX1_passDay 23 = .ok (.ifCond .eq 13, 3) := by decide +kernel
theorem dX1_passDay_26 : decode cX1_passDay 26 = .ok (.aload_n 0, 1) := by decide +kernel
theorem dX1_passDay_27 : decode cX1_passDay 27 = .ok (.iload_n 1, 1) := by decide +kernel
theorem dX1_passDay_28 : decode cX1_passDay 28 = .ok (.iload_n 2, 1) := by decide +kernel
theorem dX1_passDay_29 : decode cX1_passDay 29 = .ok (.invokestatic 34, 3) := by decide +kernel
theorem dX1_passDay_32 : decode cX1_passDay 32 = .ok (.iload_n 3, 1) := by decide +kernel
theorem dX1_passDay_33 : decode cX1_passDay 33 = .ok (.invokevirtual 38, 3) := by decide +kernel
theorem dX1_passDay_36 : decode cX1_passDay 36 = .ok (.return_, 1) := by decide +kernel
theorem dX2_init_0 : decode cX2_init 0 = .ok (.aload_n 0, 1) := by decide +kernel
theorem dX2_init_1 : decode cX2_init 1 = .ok (.invokespecial 3, 3) := by decide +kernel
theorem dX2_init_4 : decode cX2_init 4 = .ok (.aload_n 0, 1) := by decide +kernel
theorem dX2_init_5 : decode cX2_init 5 = .ok (.bipush 40, 2) := by decide +kernel
theorem dX2_init_7 : decode cX2_init 7 = .ok (.newarray .long, 2) := by decide +kernel
theorem dX2_init_9 : decode cX2_init 9 = .ok (.putfield 9, 3) := by decide +kernel
theorem dX2_init_12 : decode cX2_init 12 = .ok (.return_, 1) := by decide +kernel
theorem dX2_allows_0 : decode cX2_allows 0 = .ok (.iload_n 0, 1) := by decide +kernel
theorem dX2_allows_1 : decode cX2_allows 1 = .ok (.ifCond .eq 21, 3) := by decide +kernel
theorem dX2_allows_4 : decode cX2_allows 4 = .ok (.iload_n 0, 1) := by decide +kernel
theorem dX2_allows_5 : decode cX2_allows 5 = .ok (.bipush 8, 2) := by decide +kernel
theorem dX2_allows_7 : decode cX2_allows 7 = .ok (.if_icmp .eq 15, 3) := by decide +kernel
theorem dX2_allows_10 : decode cX2_allows 10 = .ok (.iload_n 0, 1) := by decide +kernel
theorem dX2_allows_11 : decode cX2_allows 11 = .ok (.bipush 16, 2) := by decide +kernel
theorem dX2_allows_13 : decode cX2_allows 13 = .ok (.if_icmp .eq 9, 3) := by decide +kernel
theorem dX2_allows_16 : decode cX2_allows 16 = .ok (.iload_n 0, 1) := by decide +kernel
theorem dX2_allows_17 : decode cX2_allows 17 = .ok (.bipush 64, 2) := by decide +kernel
theorem dX2_allows_19 : decode cX2_allows 19 = .ok (.if_icmp .ne 7, 3) := by decide +kernel
theorem dX2_allows_22 : decode cX2_allows 22 = .ok (.iconst 1, 1) := by decide +kernel
theorem dX2_allows_23 : decode cX2_allows 23 = .ok (.goto 4, 3) := by decide +kernel
theorem dX2_allows_26 : decode cX2_allows 26 = .ok (.iconst 0, 1) := by decide +kernel
theorem dX2_allows_27 : decode cX2_allows 27 = .ok (.ireturn, 1) := by decide +kernel
theorem dX2_lay_0 : decode cX2_lay 0 = .ok (.aload_n 0, 1) := by decide +kernel
theorem dX2_lay_1 : decode cX2_lay 1 = .ok (.iload_n 1, 1) := by decide +kernel
theorem dX2_lay_2 : decode cX2_lay 2 = .ok (.putfield 15, 3) := by decide +kernel
theorem dX2_lay_5 : decode cX2_lay 5 = .ok (.aload_n 0, 1) := by decide +kernel
theorem dX2_lay_6 : decode cX2_lay 6 = .ok (.iload_n 1, 1) := by decide +kernel
theorem dX2_lay_7 : decode cX2_lay 7 = .ok (.ifCond .ne 7, 3) := by decide +kernel
theorem dX2_lay_10 : decode cX2_lay 10 = .ok (.iconst 0, 1) := by decide +kernel
theorem dX2_lay_11 : decode cX2_lay 11 = .ok (.goto 13, 3) := by decide +kernel
theorem dX2_lay_14 : decode cX2_lay 14 = .ok (.iconst 0, 1) := by decide +kernel
theorem dX2_lay_15 : decode cX2_lay 15 = .ok (.bipush 40, 2) := by decide +kernel
theorem dX2_lay_17 : decode cX2_lay 17 = .ok (.iload_n 2, 1) := by decide +kernel
theorem dX2_lay_18 : decode cX2_lay 18 = .ok (.invokestatic 19, 3) := by decide +kernel
theorem dX2_lay_21 : decode cX2_lay 21 = .ok (.invokestatic 25, 3) := by decide +kernel
theorem dX2_lay_24 : decode cX2_lay 24 = .ok (.putfield 28, 3) := by decide +kernel
theorem dX2_lay_27 : decode cX2_lay 27 = .ok (.iconst 0, 1) := by decide +kernel
theorem dX2_lay_28 : decode cX2_lay 28 = .ok (.istore_n 3, 1) := by decide +kernel
theorem dX2_lay_29 : decode cX2_lay 29 = .ok (.iload_n 3, 1) := by decide +kernel
theorem dX2_lay_30 : decode cX2_lay 30 = .ok (.aload_n 0, 1) := by decide +kernel
theorem dX2_lay_31 : decode cX2_lay 31 = .ok (.getfield 9, 3) := by decide +kernel
theorem dX2_lay_34 : decode cX2_lay 34 = .ok (.arraylength, 1) := by decide +kernel
theorem dX2_lay_35 : decode cX2_lay 35 = .ok (.if_icmp .ge 16, 3) := by decide +kernel
theorem dX2_lay_38 : decode cX2_lay 38 = .ok (.aload_n 0, 1) := by decide +kernel
theorem dX2_lay_39 : decode cX2_lay 39 = .ok (.getfield 9, 3) := by decide +kernel
theorem dX2_lay_42 : decode cX2_lay 42 = .ok (.iload_n 3, 1) := by decide +kernel
theorem dX2_lay_43 : decode cX2_lay 43 = .ok (.lconst 0, 1) := by decide +kernel
theorem dX2_lay_44 : decode cX2_lay 44 = .ok (.lastore, 1) := by decide +kernel
theorem dX2_lay_45 : decode cX2_lay 45 = .ok (.iinc 3 1, 3) := by decide +kernel
theorem dX2_lay_48 : decode cX2_lay 48 = .ok (.goto (-19), 3) := by decide +kernel
theorem dX2_lay_51 : decode cX2_lay 51 = .ok (.return_, 1) := by decide +kernel
theorem dX2_isMissing_0 : decode cX2_isMissing 0 = .ok (.aload_n 0, 1) := by decide +kernel
theorem dX2_isMissing_1 : decode cX2_isMissing 1 = .ok (.getfield 15, 3) := by decide +kernel
theorem dX2_isMissing_4 : decode cX2_isMissing 4 = .ok (.ifCond .ne 7, 3) := by decide +kernel
theorem dX2_isMissing_7 : decode cX2_isMissing 7 = .ok (.iconst 1, 1) := by decide +kernel
theorem dX2_isMissing_8 : decode cX2_isMissing 8 = .ok (.goto 4, 3) := by decide +kernel
theorem dX2_isMissing_11 : decode cX2_isMissing 11 = .ok (.iconst 0, 1) := by decide +kernel
theorem dX2_isMissing_12 : decode cX2_isMissing 12 = .ok (.ireturn, 1) := by decide +kernel
theorem dX2_hasRange_0 : decode cX2_hasRange 0 = .ok (.iload_n 1, 1) := by decide +kernel
theorem dX2_hasRange_1 : decode cX2_hasRange 1 = .ok (.ifCond .lt 29, 3) := by decide +kernel
theorem dX2_hasRange_4 : decode cX2_hasRange 4 = .ok (.iload_n 2, 1) := by decide +kernel
theorem dX2_hasRange_5 : decode cX2_hasRange 5 = .ok (.ifCond .lt 25, 3) := by decide +kernel
theorem dX2_hasRange_8 : decode cX2_hasRange 8 = .ok (.iload_n 1, 1) := by decide +kernel
theorem dX2_hasRange_9 : decode cX2_hasRange 9 = .ok (.aload_n 0, 1) := by decide +kernel
theorem dX2_hasRange_10 : decode cX2_hasRange 10 = .ok (.getfield 28, 3) := by decide +kernel
theorem dX2_hasRange_13 : decode cX2_hasRange 13 = .ok (.if_icmp .gt 17, 3) := by decide +kernel
theorem dX2_hasRange_16 : decode cX2_hasRange 16 = .ok (.iload_n 2, 1) := by decide +kernel
theorem dX2_hasRange_17 : decode cX2_hasRange 17 = .ok (.aload_n 0, 1) := by decide +kernel
theorem dX2_hasRange_18 : decode cX2_hasRange 18 = .ok (.getfield 28, 3) := by decide +kernel
theorem dX2_hasRange_21 : decode cX2_hasRange 21 = .ok (.iload_n 1, 1) := by decide +kernel
theorem dX2_hasRange_22 : decode cX2_hasRange 22 = .ok (.isub, 1) := by decide +kernel
theorem dX2_hasRange_23 : decode cX2_hasRange 23 = .ok (.if_icmp .gt 7, 3) := by decide +kernel
theorem dX2_hasRange_26 : decode cX2_hasRange 26 = .ok (.iconst 1, 1) := by decide +kernel
theorem dX2_hasRange_27 : decode cX2_hasRange 27 = .ok (.goto 4, 3) := by decide +kernel
theorem dX2_hasRange_30 : decode cX2_hasRange 30 = .ok (.iconst 0, 1) := by decide +kernel
theorem dX2_hasRange_31 : decode cX2_hasRange 31 = .ok (.ireturn, 1) := by decide +kernel
theorem dX2_numberAt_0 : decode cX2_numberAt 0 = .ok (.iload_n 1, 1) := by decide +kernel
theorem dX2_numberAt_1 : decode cX2_numberAt 1 = .ok (.ifCond .lt 20, 3) := by decide +kernel
theorem dX2_numberAt_4 : decode cX2_numberAt 4 = .ok (.iload_n 1, 1) := by decide +kernel
theorem dX2_numberAt_5 : decode cX2_numberAt 5 = .ok (.aload_n 0, 1) := by decide +kernel
theorem dX2_numberAt_6 : decode cX2_numberAt 6 = .ok (.getfield 28, 3) := by decide +kernel
theorem dX2_numberAt_9 : decode cX2_numberAt 9 = .ok (.if_icmp .ge 12, 3) := by decide +kernel
theorem dX2_numberAt_12 : decode cX2_numberAt 12 = .ok (.aload_n 0, 1) := by decide +kernel
theorem dX2_numberAt_13 : decode cX2_numberAt 13 = .ok (.getfield 9, 3) := by decide +kernel
theorem dX2_numberAt_16 : decode cX2_numberAt 16 = .ok (.iload_n 1, 1) := by decide +kernel
theorem dX2_numberAt_17 : decode cX2_numberAt 17 = .ok (.laload, 1) := by decide +kernel
theorem dX2_numberAt_18 : decode cX2_numberAt 18 = .ok (.goto 4, 3) := by decide +kernel
theorem dX2_numberAt_21 : decode cX2_numberAt 21 = .ok (.lconst 0, 1) := by decide +kernel
theorem dX2_numberAt_22 : decode cX2_numberAt 22 = .ok (.lreturn, 1) := by decide +kernel
theorem dX2_put_0 : decode cX2_put 0 = .ok (.iload_n 1, 1) := by decide +kernel
theorem dX2_put_1 : decode cX2_put 1 = .ok (.ifCond .lt 22, 3) := by decide +kernel
theorem dX2_put_4 : decode cX2_put 4 = .ok (.iload_n 1, 1) := by decide +kernel
theorem dX2_put_5 : decode cX2_put 5 = .ok (.aload_n 0, 1) := by decide +kernel
theorem dX2_put_6 : decode cX2_put 6 = .ok (.getfield 28, 3) := by decide +kernel
theorem dX2_put_9 : decode cX2_put 9 = .ok (.if_icmp .ge 14, 3) := by decide +kernel
theorem dX2_put_12 : decode cX2_put 12 = .ok (.aload_n 0, 1) := by decide +kernel
theorem dX2_put_13 : decode cX2_put 13 = .ok (.getfield 9, 3) := by decide +kernel
theorem dX2_put_16 : decode cX2_put 16 = .ok (.iload_n 1, 1) := by decide +kernel
theorem dX2_put_17 : decode cX2_put 17 = .ok (.aload_n 0, 1) := by decide +kernel
theorem dX2_put_18 : decode cX2_put 18 = .ok (.lload_n 2, 1) := by decide +kernel
theorem dX2_put_19 : decode cX2_put 19 = .ok (.invokevirtual 31, 3) := by decide +kernel
theorem dX2_put_22 : decode cX2_put 22 = .ok (.lastore, 1) := by decide +kernel
theorem dX2_put_23 : decode cX2_put 23 = .ok (.return_, 1) := by decide +kernel
theorem dX2_lowest_0 : decode cX2_lowest 0 = .ok (.aload_n 0, 1) := by decide +kernel
theorem dX2_lowest_1 : decode cX2_lowest 1 = .ok (.getfield 15, 3) := by decide +kernel
theorem dX2_lowest_4 : decode cX2_lowest 4 = .ok (.bipush 8, 2) := by decide +kernel
theorem dX2_lowest_6 : decode cX2_lowest 6 = .ok (.if_icmp .ne 8, 3) := by decide +kernel
theorem dX2_lowest_9 : decode cX2_lowest 9 = .ok (.lload_n 1, 1) := by decide +kernel
theorem dX2_lowest_10 : decode cX2_lowest 10 = .ok (.l2i, 1) := by decide +kernel
theorem dX2_lowest_11 : decode cX2_lowest 11 = .ok (.i2b, 1) := by decide +kernel
theorem dX2_lowest_12 : decode cX2_lowest 12 = .ok (.i2l, 1) := by decide +kernel
theorem dX2_lowest_13 : decode cX2_lowest 13 = .ok (.lreturn, 1) := by decide +kernel
theorem dX2_lowest_14 : decode cX2_lowest 14 = .ok (.aload_n 0, 1) := by decide +kernel
theorem dX2_lowest_15 : decode cX2_lowest 15 = .ok (.getfield 15, 3) := by decide +kernel
theorem dX2_lowest_18 : decode cX2_lowest 18 = .ok (.bipush 16, 2) := by decide +kernel
theorem dX2_lowest_20 : decode cX2_lowest 20 = .ok (.if_icmp .ne 10, 3) := by decide +kernel
theorem dX2_lowest_23 : decode cX2_lowest 23 = .ok (.lload_n 1, 1) := by decide +kernel
theorem dX2_lowest_24 : decode cX2_lowest 24 = .ok (.l2i, 1) := by decide +kernel
theorem dX2_lowest_25 : decode cX2_lowest 25 = .ok (.i2s, 1) := by decide +kernel
theorem dX2_lowest_26 : decode cX2_lowest 26 = .ok (.i2l, 1) := by decide +kernel
theorem dX2_lowest_27 : decode cX2_lowest 27 = .ok (.goto 4, 3) := by decide +kernel
theorem dX2_lowest_30 : decode cX2_lowest 30 = .ok (.lload_n 1, 1) := by decide +kernel
theorem dX2_lowest_31 : decode cX2_lowest 31 = .ok (.lreturn, 1) := by decide +kernel
theorem dX3_init_0 : decode cX3_init 0 = .ok (.aload_n 0, 1) := by decide +kernel
theorem dX3_init_1 : decode cX3_init 1 = .ok (.invokespecial 3, 3) := by decide +kernel
theorem dX3_init_4 : decode cX3_init 4 = .ok (.aload_n 0, 1) := by decide +kernel
theorem dX3_init_5 : decode cX3_init 5 = .ok (.bipush 10, 2) := by decide +kernel
theorem dX3_init_7 : decode cX3_init 7 = .ok (.putfield 9, 3) := by decide +kernel
theorem dX3_init_10 : decode cX3_init 10 = .ok (.aload_n 0, 1) := by decide +kernel
theorem dX3_init_11 : decode cX3_init 11 = .ok (.bipush 6, 2) := by decide +kernel
theorem dX3_init_13 : decode cX3_init 13 = .ok (.anewarray 15, 3) := by decide +kernel
theorem dX3_init_16 : decode cX3_init 16 = .ok (.putfield 17, 3) := by decide +kernel
theorem dX3_init_19 : decode cX3_init 19 = .ok (.aload_n 0, 1) := by decide +kernel
theorem dX3_init_20 : decode cX3_init 20 = .ok (.bipush 8, 2) := by decide +kernel
theorem dX3_init_22 : decode cX3_init 22 = .ok (.anewarray 21, 3) := by decide +kernel
theorem dX3_init_25 : decode cX3_init 25 = .ok (.putfield 23, 3) := by decide +kernel
theorem dX3_init_28 : decode cX3_init 28 = .ok (.iconst 0, 1) := by decide +kernel
theorem dX3_init_29 : decode cX3_init 29 = .ok (.istore_n 1, 1) := by decide +kernel
theorem dX3_init_30 : decode cX3_init 30 = .ok (.iload_n 1, 1) := by decide +kernel
theorem dX3_init_31 : decode cX3_init 31 = .ok (.aload_n 0, 1) := by decide +kernel
theorem dX3_init_32 : decode cX3_init 32 = .ok (.getfield 17, 3) := by decide +kernel
theorem dX3_init_35 : decode cX3_init 35 = .ok (.arraylength, 1) := by decide +kernel
theorem dX3_init_36 : decode cX3_init 36 = .ok (.if_icmp .ge 22, 3) := by decide +kernel
theorem dX3_init_39 : decode cX3_init 39 = .ok (.aload_n 0, 1) := by decide +kernel
theorem dX3_init_40 : decode cX3_init 40 = .ok (.getfield 17, 3) := by decide +kernel
theorem dX3_init_43 : decode cX3_init 43 = .ok (.iload_n 1, 1) := by decide +kernel
theorem dX3_init_44 : decode cX3_init 44 = .ok (.new 15, 3) := by decide +kernel
theorem dX3_init_47 : decode cX3_init 47 = .ok (.dup, 1) := by decide +kernel
theorem dX3_init_48 : decode cX3_init 48 = .ok (.invokespecial 27, 3) := by decide +kernel
theorem dX3_init_51 : decode cX3_init 51 = .ok (.aastore, 1) := by decide +kernel
theorem dX3_init_52 : decode cX3_init 52 = .ok (.iinc 1 1, 3) := by decide +kernel
theorem dX3_init_55 : decode cX3_init 55 = .ok (.goto (-25), 3) := by decide +kernel
theorem dX3_init_58 : decode cX3_init 58 = .ok (.iconst 0, 1) := by decide +kernel
theorem dX3_init_59 : decode cX3_init 59 = .ok (.istore_n 1, 1) := by decide +kernel
theorem dX3_init_60 : decode cX3_init 60 = .ok (.iload_n 1, 1) := by decide +kernel
theorem dX3_init_61 : decode cX3_init 61 = .ok (.aload_n 0, 1) := by decide +kernel
theorem dX3_init_62 : decode cX3_init 62 = .ok (.getfield 23, 3) := by decide +kernel
theorem dX3_init_65 : decode cX3_init 65 = .ok (.arraylength, 1) := by decide +kernel
theorem dX3_init_66 : decode cX3_init 66 = .ok (.if_icmp .ge 22, 3) := by decide +kernel
theorem dX3_init_69 : decode cX3_init 69 = .ok (.aload_n 0, 1) := by decide +kernel
theorem dX3_init_70 : decode cX3_init 70 = .ok (.getfield 23, 3) := by decide +kernel
theorem dX3_init_73 : decode cX3_init 73 = .ok (.iload_n 1, 1) := by decide +kernel
theorem dX3_init_74 : decode cX3_init 74 = .ok (.new 21, 3) := by decide +kernel
theorem dX3_init_77 : decode cX3_init 77 = .ok (.dup, 1) := by decide +kernel
theorem dX3_init_78 : decode cX3_init 78 = .ok (.invokespecial 28, 3) := by decide +kernel
theorem dX3_init_81 : decode cX3_init 81 = .ok (.aastore, 1) := by decide +kernel
theorem dX3_init_82 : decode cX3_init 82 = .ok (.iinc 1 1, 3) := by decide +kernel
theorem dX3_init_85 : decode cX3_init 85 = .ok (.goto (-25), 3) := by decide +kernel
theorem dX3_init_88 : decode cX3_init 88 = .ok (.return_, 1) := by decide +kernel
theorem dX3_become_0 : decode cX3_become 0 = .ok (.aload_n 0, 1) := by decide +kernel
theorem dX3_become_1 : decode cX3_become 1 = .ok (.aload_n 1, 1) := by decide +kernel
theorem dX3_become_2 : decode cX3_become 2 = .ok (.getfield 29, 3) := by decide +kernel
theorem dX3_become_5 : decode cX3_become 5 = .ok (.putfield 29, 3) := by decide +kernel
theorem dX3_become_8 : decode cX3_become 8 = .ok (.aload_n 0, 1) := by decide +kernel
theorem dX3_become_9 : decode cX3_become 9 = .ok (.aload_n 1, 1) := by decide +kernel
theorem dX3_become_10 : decode cX3_become 10 = .ok (.getfield 9, 3) := by decide +kernel
theorem dX3_become_13 : decode cX3_become 13 = .ok (.putfield 9, 3) := by decide +kernel
theorem dX3_become_16 : decode cX3_become 16 = .ok (.aload_n 0, 1) := by decide +kernel
theorem dX3_become_17 : decode cX3_become 17 = .ok (.aload_n 1, 1) := by decide +kernel
theorem dX3_become_18 : decode cX3_become 18 = .ok (.getfield 32, 3) := by decide +kernel
theorem dX3_become_21 : decode cX3_become 21 = .ok (.putfield 32, 3) := by decide +kernel
theorem dX3_become_24 : decode cX3_become 24 = .ok (.aload_n 0, 1) := by decide +kernel
theorem dX3_become_25 : decode cX3_become 25 = .ok (.aload_n 1, 1) := by decide +kernel
theorem dX3_become_26 : decode cX3_become 26 = .ok (.getfield 35, 3) := by decide +kernel
theorem dX3_become_29 : decode cX3_become 29 = .ok (.putfield 35, 3) := by decide +kernel
theorem dX3_become_32 : decode cX3_become 32 = .ok (.aload_n 0, 1) := by decide +kernel
theorem dX3_become_33 : decode cX3_become 33 = .ok (.aload_n 1, 1) := by decide +kernel
theorem dX3_become_34 : decode cX3_become 34 = .ok (.getfield 38, 3) := by decide +kernel
theorem dX3_become_37 : decode cX3_become 37 = .ok (.putfield 38, 3) := by decide +kernel
theorem dX3_become_40 : decode cX3_become 40 = .ok (.aload_n 0, 1) := by decide +kernel
theorem dX3_become_41 : decode cX3_become 41 = .ok (.aload_n 1, 1) := by decide +kernel
theorem dX3_become_42 : decode cX3_become 42 = .ok (.getfield 41, 3) := by decide +kernel
theorem dX3_become_45 : decode cX3_become 45 = .ok (.putfield 41, 3) := by decide +kernel
theorem dX3_become_48 : decode cX3_become 48 = .ok (.aload_n 0, 1) := by decide +kernel
theorem dX3_become_49 : decode cX3_become 49 = .ok (.aload_n 1, 1) := by decide +kernel
theorem dX3_become_50 : decode cX3_become 50 = .ok (.getfield 44, 3) := by decide +kernel
theorem dX3_become_53 : decode cX3_become 53 = .ok (.putfield 44, 3) := by decide +kernel
theorem dX3_become_56 : decode cX3_become 56 = .ok (.iconst 0, 1) := by decide +kernel
theorem dX3_become_57 : decode cX3_become 57 = .ok (.istore_n 2, 1) := by decide +kernel
theorem dX3_become_58 : decode cX3_become 58 = .ok (.iload_n 2, 1) := by decide +kernel
theorem dX3_become_59 : decode cX3_become 59 = .ok (.aload_n 0, 1) := by decide +kernel
theorem dX3_become_60 : decode cX3_become 60 = .ok (.getfield 17, 3) := by decide +kernel
theorem dX3_become_63 : decode cX3_become 63 = .ok (.arraylength, 1) := by decide +kernel
theorem dX3_become_64 : decode cX3_become 64 = .ok (.if_icmp .ge 24, 3) := by decide +kernel
theorem dX3_become_67 : decode cX3_become 67 = .ok (.aload_n 0, 1) := by decide +kernel
theorem dX3_become_68 : decode cX3_become 68 = .ok (.getfield 17, 3) := by decide +kernel
theorem dX3_become_71 : decode cX3_become 71 = .ok (.iload_n 2, 1) := by decide +kernel
theorem dX3_become_72 : decode cX3_become 72 = .ok (.aaload, 1) := by decide +kernel
theorem dX3_become_73 : decode cX3_become 73 = .ok (.aload_n 1, 1) := by decide +kernel
theorem dX3_become_74 : decode cX3_become 74 = .ok (.getfield 17, 3) := by decide +kernel
theorem dX3_become_77 : decode cX3_become 77 = .ok (.iload_n 2, 1) := by decide +kernel
theorem dX3_become_78 : decode cX3_become 78 = .ok (.aaload, 1) := by decide +kernel
theorem dX3_become_79 : decode cX3_become 79 = .ok (.invokevirtual 47, 3) := by decide +kernel
theorem dX3_become_82 : decode cX3_become 82 = .ok (.iinc 2 1, 3) := by decide +kernel
theorem dX3_become_85 : decode cX3_become 85 = .ok (.goto (-27), 3) := by decide +kernel
theorem dX3_become_88 : decode cX3_become 88 = .ok (.iconst 0, 1) := by decide +kernel
theorem dX3_become_89 : decode cX3_become 89 = .ok (.istore_n 2, 1) := by decide +kernel
theorem dX3_become_90 : decode cX3_become 90 = .ok (.iload_n 2, 1) := by decide +kernel
theorem dX3_become_91 : decode cX3_become 91 = .ok (.aload_n 0, 1) := by decide +kernel
theorem dX3_become_92 : decode cX3_become 92 = .ok (.getfield 23, 3) := by decide +kernel
theorem dX3_become_95 : decode cX3_become 95 = .ok (.arraylength, 1) := by decide +kernel
theorem dX3_become_96 : decode cX3_become 96 = .ok (.if_icmp .ge 24, 3) := by decide +kernel
theorem dX3_become_99 : decode cX3_become 99 = .ok (.aload_n 0, 1) := by decide +kernel
theorem dX3_become_100 : decode cX3_become 100 = .ok (.getfield 23, 3) := by decide +kernel
theorem dX3_become_103 : decode cX3_become 103 = .ok (.iload_n 2, 1) := by decide +kernel
theorem dX3_become_104 : decode cX3_become 104 = .ok (.aaload, 1) := by decide +kernel
theorem dX3_become_105 : decode cX3_become 105 = .ok (.aload_n 1, 1) := by decide +kernel
theorem dX3_become_106 : decode cX3_become 106 = .ok (.getfield 23, 3) := by decide +kernel
theorem dX3_become_109 : decode cX3_become 109 = .ok (.iload_n 2, 1) := by decide +kernel
theorem dX3_become_110 : decode cX3_become 110 = .ok (.aaload, 1) := by decide +kernel
theorem dX3_become_111 : decode cX3_become 111 = .ok (.invokevirtual 51, 3) := by decide +kernel
theorem dX3_become_114 : decode cX3_become 114 = .ok (.iinc 2 1, 3) := by decide +kernel
theorem dX3_become_117 : decode cX3_become 117 = .ok (.goto (-27), 3) := by decide +kernel
theorem dX3_become_120 : decode cX3_become 120 = .ok (.return_, 1) := by decide +kernel
theorem dX3_calendarAt_0 : decode cX3_calendarAt 0 = .ok (.iload_n 1, 1) := by decide +kernel
theorem dX3_calendarAt_1 : decode cX3_calendarAt 1 = .ok (.ifCond .lt 24, 3) := by decide +kernel
theorem dX3_calendarAt_4 : decode cX3_calendarAt 4 = .ok (.iload_n 1, 1) := by decide +kernel
theorem dX3_calendarAt_5 : decode cX3_calendarAt 5 = .ok (.aload_n 0, 1) := by decide +kernel
theorem dX3_calendarAt_6 : decode cX3_calendarAt 6 = .ok (.getfield 41, 3) := by decide +kernel
theorem dX3_calendarAt_9 : decode cX3_calendarAt 9 = .ok (.if_icmp .ge 16, 3) := by decide +kernel
theorem dX3_calendarAt_12 : decode cX3_calendarAt 12 = .ok (.iload_n 1, 1) := by decide +kernel
theorem dX3_calendarAt_13 : decode cX3_calendarAt 13 = .ok (.aload_n 0, 1) := by decide +kernel
theorem dX3_calendarAt_14 : decode cX3_calendarAt 14 = .ok (.getfield 17, 3) := by decide +kernel
theorem dX3_calendarAt_17 : decode cX3_calendarAt 17 = .ok (.arraylength, 1) := by decide +kernel
theorem dX3_calendarAt_18 : decode cX3_calendarAt 18 = .ok (.if_icmp .ge 7, 3) := by decide +kernel
theorem dX3_calendarAt_21 : decode cX3_calendarAt 21 = .ok (.iconst 1, 1) := by decide +kernel
theorem dX3_calendarAt_22 : decode cX3_calendarAt 22 = .ok (.goto 4, 3) := by decide +kernel
theorem dX3_calendarAt_25 : decode cX3_calendarAt 25 = .ok (.iconst 0, 1) := by decide +kernel
theorem dX3_calendarAt_26 : decode cX3_calendarAt 26 = .ok (.istore_n 2, 1) := by decide +kernel
theorem dX3_calendarAt_27 : decode cX3_calendarAt 27 = .ok (.iload_n 2, 1) := by decide +kernel
theorem dX3_calendarAt_28 : decode cX3_calendarAt 28 = .ok (.ifCond .eq 12, 3) := by decide +kernel
theorem dX3_calendarAt_31 : decode cX3_calendarAt 31 = .ok (.aload_n 0, 1) := by decide +kernel
theorem dX3_calendarAt_32 : decode cX3_calendarAt 32 = .ok (.getfield 17, 3) := by decide +kernel
theorem dX3_calendarAt_35 : decode cX3_calendarAt 35 = .ok (.iload_n 1, 1) := by decide +kernel
theorem dX3_calendarAt_36 : decode cX3_calendarAt 36 = .ok (.aaload, 1) := by decide +kernel
theorem dX3_calendarAt_37 : decode cX3_calendarAt 37 = .ok (.goto 4, 3) := by decide +kernel
theorem dX3_calendarAt_40 : decode cX3_calendarAt 40 = .ok (.aconst_null, 1) := by decide +kernel
theorem dX3_calendarAt_41 : decode cX3_calendarAt 41 = .ok (.areturn, 1) := by decide +kernel
theorem dX3_pilgrimAt_0 : decode cX3_pilgrimAt 0 = .ok (.iload_n 1, 1) := by decide +kernel
theorem dX3_pilgrimAt_1 : decode cX3_pilgrimAt 1 = .ok (.ifCond .lt 24, 3) := by decide +kernel
theorem dX3_pilgrimAt_4 : decode cX3_pilgrimAt 4 = .ok (.iload_n 1, 1) := by decide +kernel
theorem dX3_pilgrimAt_5 : decode cX3_pilgrimAt 5 = .ok (.aload_n 0, 1) := by decide +kernel
theorem dX3_pilgrimAt_6 : decode cX3_pilgrimAt 6 = .ok (.getfield 44, 3) := by decide +kernel
theorem dX3_pilgrimAt_9 : decode cX3_pilgrimAt 9 = .ok (.if_icmp .ge 16, 3) := by decide +kernel
theorem dX3_pilgrimAt_12 : decode cX3_pilgrimAt 12 = .ok (.iload_n 1, 1) := by decide +kernel
theorem dX3_pilgrimAt_13 : decode cX3_pilgrimAt 13 = .ok (.aload_n 0, 1) := by decide +kernel
theorem dX3_pilgrimAt_14 : decode cX3_pilgrimAt 14 = .ok (.getfield 23, 3) := by decide +kernel
theorem dX3_pilgrimAt_17 : decode cX3_pilgrimAt 17 = .ok (.arraylength, 1) := by decide +kernel
theorem dX3_pilgrimAt_18 : decode cX3_pilgrimAt 18 = .ok (.if_icmp .ge 7, 3) := by decide +kernel
theorem dX3_pilgrimAt_21 : decode cX3_pilgrimAt 21 = .ok (.iconst 1, 1) := by decide +kernel
theorem dX3_pilgrimAt_22 : decode cX3_pilgrimAt 22 = .ok (.goto 4, 3) := by decide +kernel
theorem dX3_pilgrimAt_25 : decode cX3_pilgrimAt 25 = .ok (.iconst 0, 1) := by decide +kernel
theorem dX3_pilgrimAt_26 : decode cX3_pilgrimAt 26 = .ok (.istore_n 2, 1) := by decide +kernel
theorem dX3_pilgrimAt_27 : decode cX3_pilgrimAt 27 = .ok (.iload_n 2, 1) := by decide +kernel
theorem dX3_pilgrimAt_28 : decode cX3_pilgrimAt 28 = .ok (.ifCond .eq 12, 3) := by decide +kernel
theorem dX3_pilgrimAt_31 : decode cX3_pilgrimAt 31 = .ok (.aload_n 0, 1) := by decide +kernel
theorem dX3_pilgrimAt_32 : decode cX3_pilgrimAt 32 = .ok (.getfield 23, 3) := by decide +kernel
theorem dX3_pilgrimAt_35 : decode cX3_pilgrimAt 35 = .ok (.iload_n 1, 1) := by decide +kernel
theorem dX3_pilgrimAt_36 : decode cX3_pilgrimAt 36 = .ok (.aaload, 1) := by decide +kernel
theorem dX3_pilgrimAt_37 : decode cX3_pilgrimAt 37 = .ok (.goto 4, 3) := by decide +kernel
theorem dX3_pilgrimAt_40 : decode cX3_pilgrimAt 40 = .ok (.aconst_null, 1) := by decide +kernel
theorem dX3_pilgrimAt_41 : decode cX3_pilgrimAt 41 = .ok (.areturn, 1) := by decide +kernel
theorem dX3_hasBoth_0 : decode cX3_hasBoth 0 = .ok (.iload_n 1, 1) := by decide +kernel
theorem dX3_hasBoth_1 : decode cX3_hasBoth 1 = .ok (.iload_n 2, 1) := by decide +kernel
theorem dX3_hasBoth_2 : decode cX3_hasBoth 2 = .ok (.if_icmp .eq 23, 3) := by decide +kernel
theorem dX3_hasBoth_5 : decode cX3_hasBoth 5 = .ok (.aload_n 0, 1) := by decide +kernel
theorem dX3_hasBoth_6 : decode cX3_hasBoth 6 = .ok (.iload_n 1, 1) := by decide +kernel
theorem dX3_hasBoth_7 : decode cX3_hasBoth 7 = .ok (.invokevirtual 54, 3) := by decide +kernel
theorem dX3_hasBoth_10 : decode cX3_hasBoth 10 = .ok (.ifnull 15, 3) := by decide +kernel
theorem dX3_hasBoth_13 : decode cX3_hasBoth 13 = .ok (.aload_n 0, 1) := by decide +kernel
theorem dX3_hasBoth_14 : decode cX3_hasBoth 14 = .ok (.iload_n 2, 1) := by decide +kernel
theorem dX3_hasBoth_15 : decode cX3_hasBoth 15 = .ok (.invokevirtual 54, 3) := by decide +kernel
theorem dX3_hasBoth_18 : decode cX3_hasBoth 18 = .ok (.ifnull 7, 3) := by decide +kernel
theorem dX3_hasBoth_21 : decode cX3_hasBoth 21 = .ok (.iconst 1, 1) := by decide +kernel
theorem dX3_hasBoth_22 : decode cX3_hasBoth 22 = .ok (.goto 4, 3) := by decide +kernel
theorem dX3_hasBoth_25 : decode cX3_hasBoth 25 = .ok (.iconst 0, 1) := by decide +kernel
theorem dX3_hasBoth_26 : decode cX3_hasBoth 26 = .ok (.ireturn, 1) := by decide +kernel
theorem dX3_canTrust_0 : decode cX3_canTrust 0 = .ok (.iload_n 1, 1) := by decide +kernel
theorem dX3_canTrust_1 : decode cX3_canTrust 1 = .ok (.iconst (-1), 1) := by decide +kernel
theorem dX3_canTrust_2 : decode cX3_canTrust 2 = .ok (.if_icmp .eq 11, 3) := by decide +kernel
theorem dX3_canTrust_5 : decode cX3_canTrust 5 = .ok (.aload_n 0, 1) := by decide +kernel
theorem dX3_canTrust_6 : decode cX3_canTrust 6 = .ok (.iload_n 1, 1) := by decide +kernel
theorem dX3_canTrust_7 : decode cX3_canTrust 7 = .ok (.invokevirtual 54, 3) := by decide +kernel
theorem dX3_canTrust_10 : decode cX3_canTrust 10 = .ok (.ifnull 7, 3) := by decide +kernel
theorem dX3_canTrust_13 : decode cX3_canTrust 13 = .ok (.iconst 1, 1) := by decide +kernel
theorem dX3_canTrust_14 : decode cX3_canTrust 14 = .ok (.goto 4, 3) := by decide +kernel
theorem dX3_canTrust_17 : decode cX3_canTrust 17 = .ok (.iconst 0, 1) := by decide +kernel
theorem dX3_canTrust_18 : decode cX3_canTrust 18 = .ok (.ireturn, 1) := by decide +kernel
theorem dX3_addCalendar_0 : decode cX3_addCalendar 0 = .ok (.aload_n 0, 1) := by decide +kernel
theorem dX3_addCalendar_1 : decode cX3_addCalendar 1 = .ok (.getfield 41, 3) := by decide +kernel
theorem dX3_addCalendar_4 : decode cX3_addCalendar 4 = .ok (.aload_n 0, 1) := by decide +kernel
theorem dX3_addCalendar_5 : decode cX3_addCalendar 5 = .ok (.getfield 17, 3) := by decide +kernel
theorem dX3_addCalendar_8 : decode cX3_addCalendar 8 = .ok (.arraylength, 1) := by decide +kernel
theorem dX3_addCalendar_9 : decode cX3_addCalendar 9 = .ok (.if_icmp .ge 26, 3) := by decide +kernel
theorem dX3_addCalendar_12 : decode cX3_addCalendar 12 = .ok (.aload_n 0, 1) := by decide +kernel
theorem dX3_addCalendar_13 : decode cX3_addCalendar 13 = .ok (.getfield 17, 3) := by decide +kernel
theorem dX3_addCalendar_16 : decode cX3_addCalendar 16 = .ok (.aload_n 0, 1) := by decide +kernel
theorem dX3_addCalendar_17 : decode cX3_addCalendar 17 = .ok (.getfield 41, 3) := by decide +kernel
theorem dX3_addCalendar_20 : decode cX3_addCalendar 20 = .ok (.aaload, 1) := by decide +kernel
theorem dX3_addCalendar_21 : decode cX3_addCalendar 21 = .ok (.iload_n 1, 1) := by decide +kernel
theorem dX3_addCalendar_22 : decode cX3_addCalendar 22 = .ok (.invokevirtual 58, 3) := by decide +kernel
theorem dX3_addCalendar_25 : decode cX3_addCalendar 25 = .ok (.aload_n 0, 1) := by decide +kernel
theorem dX3_addCalendar_26 : decode cX3_addCalendar 26 = .ok (.dup, 1) := by decide +kernel
theorem dX3_addCalendar_27 : decode cX3_addCalendar 27 = .ok (.getfield 41, 3) := by decide +kernel
theorem dX3_addCalendar_30 : decode cX3_addCalendar 30 = .ok (.iconst 1, 1) := by decide +kernel
theorem dX3_addCalendar_31 : decode cX3_addCalendar 31 = .ok (.iadd, 1) := by decide +kernel
theorem dX3_addCalendar_32 : decode cX3_addCalendar 32 = .ok (.putfield 41, 3) := by decide +kernel
theorem dX3_addCalendar_35 : decode cX3_addCalendar 35 = .ok (.return_, 1) := by decide +kernel
theorem dX3_addPilgrim_0 : decode cX3_addPilgrim 0 = .ok (.aload_n 0, 1) := by decide +kernel
theorem dX3_addPilgrim_1 : decode cX3_addPilgrim 1 = .ok (.getfield 44, 3) := by decide +kernel
theorem dX3_addPilgrim_4 : decode cX3_addPilgrim 4 = .ok (.aload_n 0, 1) := by decide +kernel
theorem dX3_addPilgrim_5 : decode cX3_addPilgrim 5 = .ok (.getfield 23, 3) := by decide +kernel
theorem dX3_addPilgrim_8 : decode cX3_addPilgrim 8 = .ok (.arraylength, 1) := by decide +kernel
theorem dX3_addPilgrim_9 : decode cX3_addPilgrim 9 = .ok (.if_icmp .ge 27, 3) := by decide +kernel
theorem dX3_addPilgrim_12 : decode cX3_addPilgrim 12 = .ok (.aload_n 0, 1) := by decide +kernel
theorem dX3_addPilgrim_13 : decode cX3_addPilgrim 13 = .ok (.getfield 23, 3) := by decide +kernel
theorem dX3_addPilgrim_16 : decode cX3_addPilgrim 16 = .ok (.aload_n 0, 1) := by decide +kernel
theorem dX3_addPilgrim_17 : decode cX3_addPilgrim 17 = .ok (.getfield 44, 3) := by decide +kernel
theorem dX3_addPilgrim_20 : decode cX3_addPilgrim 20 = .ok (.aaload, 1) := by decide +kernel
theorem dX3_addPilgrim_21 : decode cX3_addPilgrim 21 = .ok (.iload_n 1, 1) := by decide +kernel
theorem dX3_addPilgrim_22 : decode cX3_addPilgrim 22 = .ok (.iload_n 2, 1) := by decide +kernel
theorem dX3_addPilgrim_23 : decode cX3_addPilgrim 23 = .ok (.invokevirtual 62, 3) := by decide +kernel
theorem dX3_addPilgrim_26 : decode cX3_addPilgrim 26 = .ok (.aload_n 0, 1) := by decide +kernel
theorem dX3_addPilgrim_27 : decode cX3_addPilgrim 27 = .ok (.dup, 1) := by decide +kernel
theorem dX3_addPilgrim_28 : decode cX3_addPilgrim 28 = .ok (.getfield 44, 3) := by decide +kernel
theorem dX3_addPilgrim_31 : decode cX3_addPilgrim 31 = .ok (.iconst 1, 1) := by decide +kernel
theorem dX3_addPilgrim_32 : decode cX3_addPilgrim 32 = .ok (.iadd, 1) := by decide +kernel
theorem dX3_addPilgrim_33 : decode cX3_addPilgrim 33 = .ok (.putfield 44, 3) := by decide +kernel
theorem dX3_addPilgrim_36 : decode cX3_addPilgrim 36 = .ok (.return_, 1) := by decide +kernel
theorem dX3_isHolyBy_0 : decode cX3_isHolyBy 0 = .ok (.aload_n 0, 1) := by decide +kernel
theorem dX3_isHolyBy_1 : decode cX3_isHolyBy 1 = .ok (.iload_n 1, 1) := by decide +kernel
theorem dX3_isHolyBy_2 : decode cX3_isHolyBy 2 = .ok (.invokevirtual 54, 3) := by decide +kernel
theorem dX3_isHolyBy_5 : decode cX3_isHolyBy 5 = .ok (.astore_n 3, 1) := by decide +kernel
theorem dX3_isHolyBy_6 : decode cX3_isHolyBy 6 = .ok (.aload_n 3, 1) := by decide +kernel
theorem dX3_isHolyBy_7 : decode cX3_isHolyBy 7 = .ok (.ifnull 15, 3) := by decide +kernel
theorem dX3_isHolyBy_10 : decode cX3_isHolyBy 10 = .ok (.aload_n 3, 1) := by decide +kernel
theorem dX3_isHolyBy_11 : decode cX3_isHolyBy 11 = .ok (.iload_n 2, 1) := by decide +kernel
theorem dX3_isHolyBy_12 : decode cX3_isHolyBy 12 = .ok (.invokevirtual 66, 3) := by decide +kernel
theorem dX3_isHolyBy_15 : decode cX3_isHolyBy 15 = .ok (.ifCond .eq 7, 3) := by decide +kernel
theorem dX3_isHolyBy_18 : decode cX3_isHolyBy 18 = .ok (.iconst 1, 1) := by decide +kernel
theorem dX3_isHolyBy_19 : decode cX3_isHolyBy 19 = .ok (.goto 4, 3) := by decide +kernel
theorem dX3_isHolyBy_22 : decode cX3_isHolyBy 22 = .ok (.iconst 0, 1) := by decide +kernel
theorem dX3_isHolyBy_23 : decode cX3_isHolyBy 23 = .ok (.ireturn, 1) := by decide +kernel
theorem dX3_holySet_0 : decode cX3_holySet 0 = .ok (.iconst 0, 1) := by decide +kernel
theorem dX3_holySet_1 : decode cX3_holySet 1 = .ok (.istore_n 2, 1) := by decide +kernel
theorem dX3_holySet_2 : decode cX3_holySet 2 = .ok (.iconst 0, 1) := by decide +kernel
theorem dX3_holySet_3 : decode cX3_holySet 3 = .ok (.istore_n 3, 1) := by decide +kernel
theorem dX3_holySet_4 : decode cX3_holySet 4 = .ok (.iload_n 3, 1) := by decide +kernel
theorem dX3_holySet_5 : decode cX3_holySet 5 = .ok (.aload_n 0, 1) := by decide +kernel
theorem dX3_holySet_6 : decode cX3_holySet 6 = .ok (.getfield 41, 3) := by decide +kernel
theorem dX3_holySet_9 : decode cX3_holySet 9 = .ok (.if_icmp .ge 37, 3) := by decide +kernel
theorem dX3_holySet_12 : decode cX3_holySet 12 = .ok (.iload_n 3, 1) := by decide +kernel
theorem dX3_holySet_13 : decode cX3_holySet 13 = .ok (.aload_n 0, 1) := by decide +kernel
theorem dX3_holySet_14 : decode cX3_holySet 14 = .ok (.getfield 17, 3) := by decide +kernel
theorem dX3_holySet_17 : decode cX3_holySet 17 = .ok (.arraylength, 1) := by decide +kernel
theorem dX3_holySet_18 : decode cX3_holySet 18 = .ok (.if_icmp .ge 28, 3) := by decide +kernel
theorem dX3_holySet_21 : decode cX3_holySet 21 = .ok (.aload_n 0, 1) := by decide +kernel
theorem dX3_holySet_22 : decode cX3_holySet 22 = .ok (.getfield 17, 3) := by decide +kernel
theorem dX3_holySet_25 : decode cX3_holySet 25 = .ok (.iload_n 3, 1) := by decide +kernel
theorem dX3_holySet_26 : decode cX3_holySet 26 = .ok (.aaload, 1) := by decide +kernel
theorem dX3_holySet_27 : decode cX3_holySet 27 = .ok (.iload_n 1, 1) := by decide +kernel
theorem dX3_holySet_28 : decode cX3_holySet 28 = .ok (.invokevirtual 66, 3) := by decide +kernel
theorem dX3_holySet_31 : decode cX3_holySet 31 = .ok (.ifCond .eq 9, 3) := by decide +kernel
theorem dX3_holySet_34 : decode cX3_holySet 34 = .ok (.iload_n 2, 1) := by decide +kernel
theorem dX3_holySet_35 : decode cX3_holySet 35 = .ok (.iconst 1, 1) := by decide +kernel
theorem dX3_holySet_36 : decode cX3_holySet 36 = .ok (.iload_n 3, 1) := by decide +kernel
theorem dX3_holySet_37 : decode cX3_holySet 37 = .ok (.ishl, 1) := by decide +kernel
theorem dX3_holySet_38 : decode cX3_holySet 38 = .ok (.ior, 1) := by decide +kernel
theorem dX3_holySet_39 : decode cX3_holySet 39 = .ok (.istore_n 2, 1) := by decide +kernel
theorem dX3_holySet_40 : decode cX3_holySet 40 = .ok (.iinc 3 1, 3) := by decide +kernel
theorem dX3_holySet_43 : decode cX3_holySet 43 = .ok (.goto (-39), 3) := by decide +kernel
theorem dX3_holySet_46 : decode cX3_holySet 46 = .ok (.iload_n 2, 1) := by decide +kernel
theorem dX3_holySet_47 : decode cX3_holySet 47 = .ok (.ireturn, 1) := by decide +kernel
theorem dX3_takeJug_0 : decode cX3_takeJug 0 = .ok (.iload_n 1, 1) := by decide +kernel
theorem dX3_takeJug_1 : decode cX3_takeJug 1 = .ok (.ifCond .eq 22, 3) := by decide +kernel
theorem dX3_takeJug_4 : decode cX3_takeJug 4 = .ok (.aload_n 0, 1) := by decide +kernel
theorem dX3_takeJug_5 : decode cX3_takeJug 5 = .ok (.getfield 35, 3) := by decide +kernel
theorem dX3_takeJug_8 : decode cX3_takeJug 8 = .ok (.ifCond .le 15, 3) := by decide +kernel
theorem dX3_takeJug_11 : decode cX3_takeJug 11 = .ok (.aload_n 0, 1) := by decide +kernel
theorem dX3_takeJug_12 : decode cX3_takeJug 12 = .ok (.dup, 1) := by decide +kernel
theorem dX3_takeJug_13 : decode cX3_takeJug 13 = .ok (.getfield 35, 3) := by decide +kernel
theorem dX3_takeJug_16 : decode cX3_takeJug 16 = .ok (.iconst 1, 1) := by decide +kernel
theorem dX3_takeJug_17 : decode cX3_takeJug 17 = .ok (.isub, 1) := by decide +kernel
theorem dX3_takeJug_18 : decode cX3_takeJug 18 = .ok (.putfield 35, 3) := by decide +kernel
theorem dX3_takeJug_21 : decode cX3_takeJug 21 = .ok (.iconst 1, 1) := by decide +kernel
theorem dX3_takeJug_22 : decode cX3_takeJug 22 = .ok (.ireturn, 1) := by decide +kernel
theorem dX3_takeJug_23 : decode cX3_takeJug 23 = .ok (.iload_n 1, 1) := by decide +kernel
theorem dX3_takeJug_24 : decode cX3_takeJug 24 = .ok (.ifCond .ne 22, 3) := by decide +kernel
theorem dX3_takeJug_27 : decode cX3_takeJug 27 = .ok (.aload_n 0, 1) := by decide +kernel
theorem dX3_takeJug_28 : decode cX3_takeJug 28 = .ok (.getfield 38, 3) := by decide +kernel
theorem dX3_takeJug_31 : decode cX3_takeJug 31 = .ok (.ifCond .le 15, 3) := by decide +kernel
theorem dX3_takeJug_34 : decode cX3_takeJug 34 = .ok (.aload_n 0, 1) := by decide +kernel
theorem dX3_takeJug_35 : decode cX3_takeJug 35 = .ok (.dup, 1) := by decide +kernel
theorem dX3_takeJug_36 : decode cX3_takeJug 36 = .ok (.getfield 38, 3) := by decide +kernel
theorem dX3_takeJug_39 : decode cX3_takeJug 39 = .ok (.iconst 1, 1) := by decide +kernel
theorem dX3_takeJug_40 : decode cX3_takeJug 40 = .ok (.isub, 1) := by decide +kernel
theorem dX3_takeJug_41 : decode cX3_takeJug 41 = .ok (.putfield 38, 3) := by decide +kernel
theorem dX3_takeJug_44 : decode cX3_takeJug 44 = .ok (.iconst 1, 1) := by decide +kernel
theorem dX3_takeJug_45 : decode cX3_takeJug 45 = .ok (.ireturn, 1) := by decide +kernel
theorem dX3_takeJug_46 : decode cX3_takeJug 46 = .ok (.iconst 0, 1) := by decide +kernel
theorem dX3_takeJug_47 : decode cX3_takeJug 47 = .ok (.ireturn, 1) := by decide +kernel
theorem dX3_passDay_0 : decode cX3_passDay 0 = .ok (.aload_n 0, 1) := by decide +kernel
theorem dX3_passDay_1 : decode cX3_passDay 1 = .ok (.aload_n 0, 1) := by decide +kernel
theorem dX3_passDay_2 : decode cX3_passDay 2 = .ok (.getfield 29, 3) := by decide +kernel
theorem dX3_passDay_5 : decode cX3_passDay 5 = .ok (.invokevirtual 70, 3) := by decide +kernel
theorem dX3_passDay_8 : decode cX3_passDay 8 = .ok (.istore_n 1, 1) := by decide +kernel
theorem dX3_passDay_9 : decode cX3_passDay 9 = .ok (.iconst 0, 1) := by decide +kernel
theorem dX3_passDay_10 : decode cX3_passDay 10 = .ok (.istore_n 2, 1) := by decide +kernel
theorem dX3_passDay_11 : decode cX3_passDay 11 = .ok (.iload_n 2, 1) := by decide +kernel
theorem dX3_passDay_12 : decode cX3_passDay 12 = .ok (.aload_n 0, 1) := by decide +kernel
theorem dX3_passDay_13 : decode cX3_passDay 13 = .ok (.getfield 44, 3) := by decide +kernel
theorem dX3_passDay_16 : decode cX3_passDay 16 = .ok (.if_icmp .ge 36, 3) := by decide +kernel
theorem dX3_passDay_19 : decode cX3_passDay 19 = .ok (.iload_n 2, 1) := by decide +kernel
theorem dX3_passDay_20 : decode cX3_passDay 20 = .ok (.aload_n 0, 1) := by decide +kernel
theorem dX3_passDay_21 : decode cX3_passDay 21 = .ok (.getfield 23, 3) := by decide +kernel
theorem dX3_passDay_24 : decode cX3_passDay 24 = .ok (.arraylength, 1) := by decide +kernel
theorem dX3_passDay_25 : decode cX3_passDay 25 = .ok (.if_icmp .ge 27, 3) := by decide +kernel
theorem dX3_passDay_28 : decode cX3_passDay 28 = .ok (.aload_n 0, 1) := by decide +kernel
theorem dX3_passDay_29 : decode cX3_passDay 29 = .ok (.getfield 23, 3) := by decide +kernel
theorem dX3_passDay_32 : decode cX3_passDay 32 = .ok (.iload_n 2, 1) := by decide +kernel
theorem dX3_passDay_33 : decode cX3_passDay 33 = .ok (.aaload, 1) := by decide +kernel
theorem dX3_passDay_34 : decode cX3_passDay 34 = .ok (.iload_n 1, 1) := by decide +kernel
theorem dX3_passDay_35 : decode cX3_passDay 35 = .ok (.aload_n 0, 1) := by decide +kernel
theorem dX3_passDay_36 : decode cX3_passDay 36 = .ok (.getfield 32, 3) := by decide +kernel
theorem dX3_passDay_39 : decode cX3_passDay 39 = .ok (.aload_n 0, 1) := by decide +kernel
theorem dX3_passDay_40 : decode cX3_passDay 40 = .ok (.getfield 9, 3) := by decide +kernel
theorem dX3_passDay_43 : decode cX3_passDay 43 = .ok (.invokevirtual 74, 3) := by decide +kernel
theorem dX3_passDay_46 : decode cX3_passDay 46 = .ok (.iinc 2 1, 3) := by decide +kernel
theorem dX3_passDay_49 : decode cX3_passDay 49 = .ok (.goto (-38), 3) := by decide +kernel
theorem dX3_passDay_52 : decode cX3_passDay 52 = .ok (.aload_n 0, 1) := by decide +kernel
theorem dX3_passDay_53 : decode cX3_passDay 53 = .ok (.getfield 29, 3) := by decide +kernel
theorem dX3_passDay_56 : decode cX3_passDay 56 = .ok (.bipush 7, 2) := by decide +kernel
theorem dX3_passDay_58 : decode cX3_passDay 58 = .ok (.irem, 1) := by decide +kernel
theorem dX3_passDay_59 : decode cX3_passDay 59 = .ok (.iconst 2, 1) := by decide +kernel
theorem dX3_passDay_60 : decode cX3_passDay 60 = .ok (.if_icmp .ne 15, 3) := by decide +kernel
theorem dX3_passDay_63 : decode cX3_passDay 63 = .ok (.aload_n 0, 1) := by decide +kernel
theorem dX3_passDay_64 : decode cX3_passDay 64 = .ok (.iload_n 1, 1) := by decide +kernel
theorem dX3_passDay_65 : decode cX3_passDay 65 = .ok (.aload_n 0, 1) := by decide +kernel
theorem dX3_passDay_66 : decode cX3_passDay 66 = .ok (.getfield 32, 3) := by decide +kernel
theorem dX3_passDay_69 : decode cX3_passDay 69 = .ok (.invokestatic 78, 3) := by decide +kernel
theorem dX3_passDay_72 : decode cX3_passDay 72 = .ok (.invokevirtual 82, 3) := by decide +kernel
theorem dX3_passDay_75 : decode cX3_passDay 75 = .ok (.aload_n 0, 1) := by decide +kernel
theorem dX3_passDay_76 : decode cX3_passDay 76 = .ok (.dup, 1) := by decide +kernel
theorem dX3_passDay_77 : decode cX3_passDay 77 = .ok (.getfield 29, 3) := by decide +kernel
theorem dX3_passDay_80 : decode cX3_passDay 80 = .ok (.iconst 1, 1) := by decide +kernel
theorem dX3_passDay_81 : decode cX3_passDay 81 = .ok (.iadd, 1) := by decide +kernel
theorem dX3_passDay_82 : decode cX3_passDay 82 = .ok (.putfield 29, 3) := by decide +kernel
theorem dX3_passDay_85 : decode cX3_passDay 85 = .ok (.return_, 1) := by decide +kernel
theorem dX3_drawJug_0 : decode cX3_drawJug 0 = .ok (.iload_n 1, 1) := by decide +kernel
theorem dX3_drawJug_1 : decode cX3_drawJug 1 = .ok (.ifCond .eq 21, 3) := by decide +kernel
theorem dX3_drawJug_4 : decode cX3_drawJug 4 = .ok (.aload_n 0, 1) := by decide +kernel
theorem dX3_drawJug_5 : decode cX3_drawJug 5 = .ok (.bipush 99, 2) := by decide +kernel
theorem dX3_drawJug_7 : decode cX3_drawJug 7 = .ok (.aload_n 0, 1) := by decide +kernel
theorem dX3_drawJug_8 : decode cX3_drawJug 8 = .ok (.getfield 35, 3) := by decide +kernel
theorem dX3_drawJug_11 : decode cX3_drawJug 11 = .ok (.iconst 1, 1) := by decide +kernel
theorem dX3_drawJug_12 : decode cX3_drawJug 12 = .ok (.iadd, 1) := by decide +kernel
theorem dX3_drawJug_13 : decode cX3_drawJug 13 = .ok (.invokestatic 86, 3) := by decide +kernel
theorem dX3_drawJug_16 : decode cX3_drawJug 16 = .ok (.putfield 35, 3) := by decide +kernel
theorem dX3_drawJug_19 : decode cX3_drawJug 19 = .ok (.goto 18, 3) := by decide +kernel
theorem dX3_drawJug_22 : decode cX3_drawJug 22 = .ok (.aload_n 0, 1) := by decide +kernel
theorem dX3_drawJug_23 : decode cX3_drawJug 23 = .ok (.bipush 99, 2) := by decide +kernel
theorem dX3_drawJug_25 : decode cX3_drawJug 25 = .ok (.aload_n 0, 1) := by decide +kernel
theorem dX3_drawJug_26 : decode cX3_drawJug 26 = .ok (.getfield 38, 3) := by decide +kernel
theorem dX3_drawJug_29 : decode cX3_drawJug 29 = .ok (.iconst 1, 1) := by decide +kernel
theorem dX3_drawJug_30 : decode cX3_drawJug 30 = .ok (.iadd, 1) := by decide +kernel
theorem dX3_drawJug_31 : decode cX3_drawJug 31 = .ok (.invokestatic 86, 3) := by decide +kernel
theorem dX3_drawJug_34 : decode cX3_drawJug 34 = .ok (.putfield 38, 3) := by decide +kernel
theorem dX3_drawJug_37 : decode cX3_drawJug 37 = .ok (.return_, 1) := by decide +kernel
theorem dX3_wellSet_0 : decode cX3_wellSet 0 = .ok (.iconst 0, 1) := by decide +kernel
theorem dX3_wellSet_1 : decode cX3_wellSet 1 = .ok (.istore_n 1, 1) := by decide +kernel
theorem dX3_wellSet_2 : decode cX3_wellSet 2 = .ok (.iconst 0, 1) := by decide +kernel
theorem dX3_wellSet_3 : decode cX3_wellSet 3 = .ok (.istore_n 2, 1) := by decide +kernel
theorem dX3_wellSet_4 : decode cX3_wellSet 4 = .ok (.iload_n 2, 1) := by decide +kernel
theorem dX3_wellSet_5 : decode cX3_wellSet 5 = .ok (.aload_n 0, 1) := by decide +kernel
theorem dX3_wellSet_6 : decode cX3_wellSet 6 = .ok (.getfield 44, 3) := by decide +kernel
theorem dX3_wellSet_9 : decode cX3_wellSet 9 = .ok (.if_icmp .ge 36, 3) := by decide +kernel
theorem dX3_wellSet_12 : decode cX3_wellSet 12 = .ok (.iload_n 2, 1) := by decide +kernel
theorem dX3_wellSet_13 : decode cX3_wellSet 13 = .ok (.aload_n 0, 1) := by decide +kernel
theorem dX3_wellSet_14 : decode cX3_wellSet 14 = .ok (.getfield 23, 3) := by decide +kernel
theorem dX3_wellSet_17 : decode cX3_wellSet 17 = .ok (.arraylength, 1) := by decide +kernel
theorem dX3_wellSet_18 : decode cX3_wellSet 18 = .ok (.if_icmp .ge 27, 3) := by decide +kernel
theorem dX3_wellSet_21 : decode cX3_wellSet 21 = .ok (.aload_n 0, 1) := by decide +kernel
theorem dX3_wellSet_22 : decode cX3_wellSet 22 = .ok (.getfield 23, 3) := by decide +kernel
theorem dX3_wellSet_25 : decode cX3_wellSet 25 = .ok (.iload_n 2, 1) := by decide +kernel
theorem dX3_wellSet_26 : decode cX3_wellSet 26 = .ok (.aaload, 1) := by decide +kernel
theorem dX3_wellSet_27 : decode cX3_wellSet 27 = .ok (.getfield 92, 3) := by decide +kernel
theorem dX3_wellSet_30 : decode cX3_wellSet 30 = .ok (.ifCond .ne 9, 3) := by decide +kernel
theorem dX3_wellSet_33 : decode cX3_wellSet 33 = .ok (.iload_n 1, 1) := by decide +kernel
theorem dX3_wellSet_34 : decode cX3_wellSet 34 = .ok (.iconst 1, 1) := by decide +kernel
theorem dX3_wellSet_35 : decode cX3_wellSet 35 = .ok (.iload_n 2, 1) := by decide +kernel
theorem dX3_wellSet_36 : decode cX3_wellSet 36 = .ok (.ishl, 1) := by decide +kernel
theorem dX3_wellSet_37 : decode cX3_wellSet 37 = .ok (.ior, 1) := by decide +kernel
theorem dX3_wellSet_38 : decode cX3_wellSet 38 = .ok (.istore_n 1, 1) := by decide +kernel
theorem dX3_wellSet_39 : decode cX3_wellSet 39 = .ok (.iinc 2 1, 3) := by decide +kernel
theorem dX3_wellSet_42 : decode cX3_wellSet 42 = .ok (.goto (-38), 3) := by decide +kernel
theorem dX3_wellSet_45 : decode cX3_wellSet 45 = .ok (.iload_n 1, 1) := by decide +kernel
theorem dX3_wellSet_46 : decode cX3_wellSet 46 = .ok (.ireturn, 1) := by decide +kernel
theorem dX3_illOfAll_0 : decode cX3_illOfAll 0 = .ok (.iconst 0, 1) := by decide +kernel
theorem dX3_illOfAll_1 : decode cX3_illOfAll 1 = .ok (.istore_n 1, 1) := by decide +kernel
theorem dX3_illOfAll_2 : decode cX3_illOfAll 2 = .ok (.iconst 0, 1) := by decide +kernel
theorem dX3_illOfAll_3 : decode cX3_illOfAll 3 = .ok (.istore_n 2, 1) := by decide +kernel
theorem dX3_illOfAll_4 : decode cX3_illOfAll 4 = .ok (.iload_n 2, 1) := by decide +kernel
theorem dX3_illOfAll_5 : decode cX3_illOfAll 5 = .ok (.aload_n 0, 1) := by decide +kernel
theorem dX3_illOfAll_6 : decode cX3_illOfAll 6 = .ok (.getfield 44, 3) := by decide +kernel
theorem dX3_illOfAll_9 : decode cX3_illOfAll 9 = .ok (.if_icmp .ge 30, 3) := by decide +kernel
theorem dX3_illOfAll_12 : decode cX3_illOfAll 12 = .ok (.iload_n 2, 1) := by decide +kernel
theorem dX3_illOfAll_13 : decode cX3_illOfAll 13 = .ok (.aload_n 0, 1) := by decide +kernel
theorem dX3_illOfAll_14 : decode cX3_illOfAll 14 = .ok (.getfield 23, 3) := by decide +kernel
theorem dX3_illOfAll_17 : decode cX3_illOfAll 17 = .ok (.arraylength, 1) := by decide +kernel
theorem dX3_illOfAll_18 : decode cX3_illOfAll 18 = .ok (.if_icmp .ge 21, 3) := by decide +kernel
theorem dX3_illOfAll_21 : decode cX3_illOfAll 21 = .ok (.iload_n 1, 1) := by decide +kernel
theorem dX3_illOfAll_22 : decode cX3_illOfAll 22 = .ok (.aload_n 0, 1) := by decide +kernel
theorem dX3_illOfAll_23 : decode cX3_illOfAll 23 = .ok (.getfield 23, 3) := by decide +kernel
theorem dX3_illOfAll_26 : decode cX3_illOfAll 26 = .ok (.iload_n 2, 1) := by decide +kernel
theorem dX3_illOfAll_27 : decode cX3_illOfAll 27 = .ok (.aaload, 1) := by decide +kernel
theorem dX3_illOfAll_28 : decode cX3_illOfAll 28 = .ok (.getfield 92, 3) := by decide +kernel
theorem dX3_illOfAll_31 : decode cX3_illOfAll 31 = .ok (.iadd, 1) := by decide +kernel
theorem dX3_illOfAll_32 : decode cX3_illOfAll 32 = .ok (.istore_n 1, 1) := by decide +kernel
theorem dX3_illOfAll_33 : decode cX3_illOfAll 33 = .ok (.iinc 2 1, 3) := by decide +kernel
theorem dX3_illOfAll_36 : decode cX3_illOfAll 36 = .ok (.goto (-32), 3) := by decide +kernel
theorem dX3_illOfAll_39 : decode cX3_illOfAll 39 = .ok (.iload_n 1, 1) := by decide +kernel
theorem dX3_illOfAll_40 : decode cX3_illOfAll 40 = .ok (.ireturn, 1) := by decide +kernel
theorem dX3_bathedOfAll_0 : decode cX3_bathedOfAll 0 = .ok (.iconst 0, 1) := by decide +kernel
theorem dX3_bathedOfAll_1 : decode cX3_bathedOfAll 1 = .ok (.istore_n 1, 1) := by decide +kernel
theorem dX3_bathedOfAll_2 : decode cX3_bathedOfAll 2 = .ok (.iconst 0, 1) := by decide +kernel
theorem dX3_bathedOfAll_3 : decode cX3_bathedOfAll 3 = .ok (.istore_n 2, 1) := by decide +kernel
theorem dX3_bathedOfAll_4 : decode cX3_bathedOfAll 4 = .ok (.iload_n 2, 1) := by decide +kernel
theorem dX3_bathedOfAll_5 : decode cX3_bathedOfAll 5 = .ok (.aload_n 0, 1) := by decide +kernel
theorem dX3_bathedOfAll_6 : decode cX3_bathedOfAll 6 = .ok (.getfield 44, 3) := by decide +kernel
theorem dX3_bathedOfAll_9 : decode cX3_bathedOfAll 9 = .ok (.if_icmp .ge 30, 3) := by decide +kernel
theorem dX3_bathedOfAll_12 : decode cX3_bathedOfAll 12 = .ok (.iload_n 2, 1) := by decide +kernel
theorem dX3_bathedOfAll_13 : decode cX3_bathedOfAll 13 = .ok (.aload_n 0, 1) := by decide +kernel
theorem dX3_bathedOfAll_14 : decode cX3_bathedOfAll 14 = .ok (.getfield 23, 3) := by decide +kernel
theorem dX3_bathedOfAll_17 : decode cX3_bathedOfAll 17 = .ok (.arraylength, 1) := by decide +kernel
theorem dX3_bathedOfAll_18 : decode cX3_bathedOfAll 18 = .ok (.if_icmp .ge 21, 3) := by decide +kernel
theorem dX3_bathedOfAll_21 : decode cX3_bathedOfAll 21 = .ok (.iload_n 1, 1) := by decide +kernel
theorem dX3_bathedOfAll_22 : decode cX3_bathedOfAll 22 = .ok (.aload_n 0, 1) := by decide +kernel
theorem dX3_bathedOfAll_23 : decode cX3_bathedOfAll 23 = .ok (.getfield 23, 3) := by decide +kernel
theorem dX3_bathedOfAll_26 : decode cX3_bathedOfAll 26 = .ok (.iload_n 2, 1) := by decide +kernel
theorem dX3_bathedOfAll_27 : decode cX3_bathedOfAll 27 = .ok (.aaload, 1) := by decide +kernel
theorem dX3_bathedOfAll_28 : decode cX3_bathedOfAll 28 = .ok (.getfield 95, 3) := by decide +kernel
theorem dX3_bathedOfAll_31 : decode cX3_bathedOfAll 31 = .ok (.iadd, 1) := by decide +kernel
theorem dX3_bathedOfAll_32 : decode cX3_bathedOfAll 32 = .ok (.istore_n 1, 1) := by decide +kernel
theorem dX3_bathedOfAll_33 : decode cX3_bathedOfAll 33 = .ok (.iinc 2 1, 3) := by decide +kernel
theorem dX3_bathedOfAll_36 : decode cX3_bathedOfAll 36 = .ok (.goto (-32), 3) := by decide +kernel
theorem dX3_bathedOfAll_39 : decode cX3_bathedOfAll 39 = .ok (.iload_n 1, 1) := by decide +kernel
theorem dX3_bathedOfAll_40 : decode cX3_bathedOfAll 40 = .ok (.ireturn, 1) := by decide +kernel
theorem dX4_init_0 : decode cX4_init 0 = .ok (.aload_n 0, 1) := by decide +kernel
theorem dX4_init_1 : decode cX4_init 1 = .ok (.invokespecial 3, 3) := by decide +kernel
theorem dX4_init_4 : decode cX4_init 4 = .ok (.aload_n 0, 1) := by decide +kernel
theorem dX4_init_5 : decode cX4_init 5 = .ok (.bipush 120, 2) := by decide +kernel
theorem dX4_init_7 : decode cX4_init 7 = .ok (.newarray .byte, 2) := by decide +kernel
theorem dX4_init_9 : decode cX4_init 9 = .ok (.putfield 9, 3) := by decide +kernel
theorem dX4_init_12 : decode cX4_init 12 = .ok (.aload_n 0, 1) := by decide +kernel
theorem dX4_init_13 : decode cX4_init 13 = .ok (.new 15, 3) := by decide +kernel
theorem dX4_init_16 : decode cX4_init 16 = .ok (.dup, 1) := by decide +kernel
theorem dX4_init_17 : decode cX4_init 17 = .ok (.invokespecial 17, 3) := by decide +kernel
theorem dX4_init_20 : decode cX4_init 20 = .ok (.putfield 18, 3) := by decide +kernel
theorem dX4_init_23 : decode cX4_init 23 = .ok (.return_, 1) := by decide +kernel
theorem dX4_add_0 : decode cX4_add 0 = .ok (.aload_n 0, 1) := by decide +kernel
theorem dX4_add_1 : decode cX4_add 1 = .ok (.getfield 22, 3) := by decide +kernel
theorem dX4_add_4 : decode cX4_add 4 = .ok (.aload_n 0, 1) := by decide +kernel
theorem dX4_add_5 : decode cX4_add 5 = .ok (.getfield 9, 3) := by decide +kernel
theorem dX4_add_8 : decode cX4_add 8 = .ok (.arraylength, 1) := by decide +kernel
theorem dX4_add_9 : decode cX4_add 9 = .ok (.if_icmp .ge 23, 3) := by decide +kernel
theorem dX4_add_12 : decode cX4_add 12 = .ok (.aload_n 0, 1) := by decide +kernel
theorem dX4_add_13 : decode cX4_add 13 = .ok (.getfield 9, 3) := by decide +kernel
theorem dX4_add_16 : decode cX4_add 16 = .ok (.aload_n 0, 1) := by decide +kernel
theorem dX4_add_17 : decode cX4_add 17 = .ok (.getfield 22, 3) := by decide +kernel
theorem dX4_add_20 : decode cX4_add 20 = .ok (.iload_n 1, 1) := by decide +kernel
theorem dX4_add_21 : decode cX4_add 21 = .ok (.bastore, 1) := by decide +kernel
theorem dX4_add_22 : decode cX4_add 22 = .ok (.aload_n 0, 1) := by decide +kernel
theorem dX4_add_23 : decode cX4_add 23 = .ok (.dup, 1) := by decide +kernel
theorem dX4_add_24 : decode cX4_add 24 = .ok (.getfield 22, 3) := by decide +kernel
theorem dX4_add_27 : decode cX4_add 27 = .ok (.iconst 1, 1) := by decide +kernel
theorem dX4_add_28 : decode cX4_add 28 = .ok (.iadd, 1) := by decide +kernel
theorem dX4_add_29 : decode cX4_add 29 = .ok (.putfield 22, 3) := by decide +kernel
theorem dX4_add_32 : decode cX4_add 32 = .ok (.return_, 1) := by decide +kernel
theorem dX4_tell_0 : decode cX4_tell 0 = .ok (.aload_n 0, 1) := by decide +kernel
theorem dX4_tell_1 : decode cX4_tell 1 = .ok (.getfield 18, 3) := by decide +kernel
theorem dX4_tell_4 : decode cX4_tell 4 = .ok (.aload_n 1, 1) := by decide +kernel
theorem dX4_tell_5 : decode cX4_tell 5 = .ok (.invokevirtual 26, 3) := by decide +kernel
theorem dX4_tell_8 : decode cX4_tell 8 = .ok (.aload_n 0, 1) := by decide +kernel
theorem dX4_tell_9 : decode cX4_tell 9 = .ok (.iconst 0, 1) := by decide +kernel
theorem dX4_tell_10 : decode cX4_tell 10 = .ok (.putfield 30, 3) := by decide +kernel
theorem dX4_tell_13 : decode cX4_tell 13 = .ok (.iconst 1, 1) := by decide +kernel
theorem dX4_tell_14 : decode cX4_tell 14 = .ok (.istore_n 2, 1) := by decide +kernel
theorem dX4_tell_15 : decode cX4_tell 15 = .ok (.iload_n 2, 1) := by decide +kernel
theorem dX4_tell_16 : decode cX4_tell 16 = .ok (.bipush 120, 2) := by decide +kernel
theorem dX4_tell_18 : decode cX4_tell 18 = .ok (.if_icmp .gt 51, 3) := by decide +kernel
theorem dX4_tell_21 : decode cX4_tell 21 = .ok (.aload_n 0, 1) := by decide +kernel
theorem dX4_tell_22 : decode cX4_tell 22 = .ok (.invokevirtual 33, 3) := by decide +kernel
theorem dX4_tell_25 : decode cX4_tell 25 = .ok (.aload_n 0, 1) := by decide +kernel
theorem dX4_tell_26 : decode cX4_tell 26 = .ok (.invokevirtual 36, 3) := by decide +kernel
theorem dX4_tell_29 : decode cX4_tell 29 = .ok (.ifCond .ne 10, 3) := by decide +kernel
theorem dX4_tell_32 : decode cX4_tell 32 = .ok (.iconst (-1), 1) := by decide +kernel
theorem dX4_tell_33 : decode cX4_tell 33 = .ok (.aload_n 0, 1) := by decide +kernel
theorem dX4_tell_34 : decode cX4_tell 34 = .ok (.getfield 40, 3) := by decide +kernel
theorem dX4_tell_37 : decode cX4_tell 37 = .ok (.isub, 1) := by decide +kernel
theorem dX4_tell_38 : decode cX4_tell 38 = .ok (.ireturn, 1) := by decide +kernel
theorem dX4_tell_39 : decode cX4_tell 39 = .ok (.aload_n 0, 1) := by decide +kernel
theorem dX4_tell_40 : decode cX4_tell 40 = .ok (.getfield 43, 3) := by decide +kernel
theorem dX4_tell_43 : decode cX4_tell 43 = .ok (.ifCond .ne 5, 3) := by decide +kernel
theorem dX4_tell_46 : decode cX4_tell 46 = .ok (.iload_n 2, 1) := by decide +kernel
theorem dX4_tell_47 : decode cX4_tell 47 = .ok (.ireturn, 1) := by decide +kernel
theorem dX4_tell_48 : decode cX4_tell 48 = .ok (.aload_n 0, 1) := by decide +kernel
theorem dX4_tell_49 : decode cX4_tell 49 = .ok (.getfield 43, 3) := by decide +kernel
theorem dX4_tell_52 : decode cX4_tell 52 = .ok (.iconst 3, 1) := by decide +kernel
theorem dX4_tell_53 : decode cX4_tell 53 = .ok (.if_icmp .eq 10, 3) := by decide +kernel
theorem dX4_tell_56 : decode cX4_tell 56 = .ok (.iconst (-1), 1) := by decide +kernel
theorem dX4_tell_57 : decode cX4_tell 57 = .ok (.aload_n 0, 1) := by decide +kernel
theorem dX4_tell_58 : decode cX4_tell 58 = .ok (.getfield 40, 3) := by decide +kernel
theorem dX4_tell_61 : decode cX4_tell 61 = .ok (.isub, 1) := by decide +kernel
theorem dX4_tell_62 : decode cX4_tell 62 = .ok (.ireturn, 1) := by decide +kernel
theorem dX4_tell_63 : decode cX4_tell 63 = .ok (.iinc 2 1, 3) := by decide +kernel
theorem dX4_tell_66 : decode cX4_tell 66 = .ok (.goto (-51), 3) := by decide +kernel
theorem dX4_tell_69 : decode cX4_tell 69 = .ok (.iconst (-1), 1) := by decide +kernel
theorem dX4_tell_70 : decode cX4_tell 70 = .ok (.aload_n 0, 1) := by decide +kernel
theorem dX4_tell_71 : decode cX4_tell 71 = .ok (.getfield 22, 3) := by decide +kernel
theorem dX4_tell_74 : decode cX4_tell 74 = .ok (.isub, 1) := by decide +kernel
theorem dX4_tell_75 : decode cX4_tell 75 = .ok (.ireturn, 1) := by decide +kernel
theorem dX4_tellItem_0 : decode cX4_tellItem 0 = .ok (.aload_n 0, 1) := by decide +kernel
theorem dX4_tellItem_1 : decode cX4_tellItem 1 = .ok (.ldc 46, 2) := by decide +kernel
theorem dX4_tellItem_3 : decode cX4_tellItem 3 = .ok (.invokevirtual 48, 3) := by decide +kernel
theorem dX4_tellItem_6 : decode cX4_tellItem 6 = .ok (.ifCond .eq 8, 3) := by decide +kernel
theorem dX4_tellItem_9 : decode cX4_tellItem 9 = .ok (.aload_n 0, 1) := by decide +kernel
theorem dX4_tellItem_10 : decode cX4_tellItem 10 = .ok (.invokevirtual 52, 3) := by decide +kernel
theorem dX4_tellItem_13 : decode cX4_tellItem 13 = .ok (.ireturn, 1) := by decide +kernel
theorem dX4_tellItem_14 : decode cX4_tellItem 14 = .ok (.aload_n 0, 1) := by decide +kernel
theorem dX4_tellItem_15 : decode cX4_tellItem 15 = .ok (.ldc 55, 2) := by decide +kernel
theorem dX4_tellItem_17 : decode cX4_tellItem 17 = .ok (.invokevirtual 48, 3) := by decide +kernel
theorem dX4_tellItem_20 : decode cX4_tellItem 20 = .ok (.ifCond .eq 8, 3) := by decide +kernel
theorem dX4_tellItem_23 : decode cX4_tellItem 23 = .ok (.aload_n 0, 1) := by decide +kernel
theorem dX4_tellItem_24 : decode cX4_tellItem 24 = .ok (.invokevirtual 57, 3) := by decide +kernel
theorem dX4_tellItem_27 : decode cX4_tellItem 27 = .ok (.ireturn, 1) := by decide +kernel
theorem dX4_tellItem_28 : decode cX4_tellItem 28 = .ok (.aload_n 0, 1) := by decide +kernel
theorem dX4_tellItem_29 : decode cX4_tellItem 29 = .ok (.ldc 60, 2) := by decide +kernel
theorem dX4_tellItem_31 : decode cX4_tellItem 31 = .ok (.invokevirtual 48, 3) := by decide +kernel
theorem dX4_tellItem_34 : decode cX4_tellItem 34 = .ok (.ifCond .eq 8, 3) := by decide +kernel
theorem dX4_tellItem_37 : decode cX4_tellItem 37 = .ok (.aload_n 0, 1) := by decide +kernel
theorem dX4_tellItem_38 : decode cX4_tellItem 38 = .ok (.invokevirtual 62, 3) := by decide +kernel
theorem dX4_tellItem_41 : decode cX4_tellItem 41 = .ok (.ireturn, 1) := by decide +kernel
theorem dX4_tellItem_42 : decode cX4_tellItem 42 = .ok (.aload_n 0, 1) := by decide +kernel
theorem dX4_tellItem_43 : decode cX4_tellItem 43 = .ok (.invokevirtual 65, 3) := by decide +kernel
theorem dX4_tellItem_46 : decode cX4_tellItem 46 = .ok (.ireturn, 1) := by decide +kernel
theorem dX4_tellTruth_0 : decode cX4_tellTruth 0 = .ok (.aload_n 0, 1) := by decide +kernel
theorem dX4_tellTruth_1 : decode cX4_tellTruth 1 = .ok (.invokevirtual 33, 3) := by decide +kernel
theorem dX4_tellTruth_4 : decode cX4_tellTruth 4 = .ok (.aload_n 0, 1) := by decide +kernel
theorem dX4_tellTruth_5 : decode cX4_tellTruth 5 = .ok (.iconst 0, 1) := by decide +kernel
theorem dX4_tellTruth_6 : decode cX4_tellTruth 6 = .ok (.iconst 5, 1) := by decide +kernel
theorem dX4_tellTruth_7 : decode cX4_tellTruth 7 = .ok (.invokevirtual 68, 3) := by decide +kernel
theorem dX4_tellTruth_10 : decode cX4_tellTruth 10 = .ok (.ifCond .ne 5, 3) := by decide +kernel
theorem dX4_tellTruth_13 : decode cX4_tellTruth 13 = .ok (.iconst 0, 1) := by decide +kernel
theorem dX4_tellTruth_14 : decode cX4_tellTruth 14 = .ok (.ireturn, 1) := by decide +kernel
theorem dX4_tellTruth_15 : decode cX4_tellTruth 15 = .ok (.aload_n 0, 1) := by decide +kernel
theorem dX4_tellTruth_16 : decode cX4_tellTruth 16 = .ok (.getfield 18, 3) := by decide +kernel
theorem dX4_tellTruth_19 : decode cX4_tellTruth 19 = .ok (.aload_n 0, 1) := by decide +kernel
theorem dX4_tellTruth_20 : decode cX4_tellTruth 20 = .ok (.getfield 72, 3) := by decide +kernel
theorem dX4_tellTruth_23 : decode cX4_tellTruth 23 = .ok (.putfield 75, 3) := by decide +kernel
theorem dX4_tellTruth_26 : decode cX4_tellTruth 26 = .ok (.aload_n 0, 1) := by decide +kernel
theorem dX4_tellTruth_27 : decode cX4_tellTruth 27 = .ok (.invokevirtual 33, 3) := by decide +kernel
theorem dX4_tellTruth_30 : decode cX4_tellTruth 30 = .ok (.iconst 1, 1) := by decide +kernel
theorem dX4_tellTruth_31 : decode cX4_tellTruth 31 = .ok (.ireturn, 1) := by decide +kernel
theorem dX4_tellPower_0 : decode cX4_tellPower 0 = .ok (.aload_n 0, 1) := by decide +kernel
theorem dX4_tellPower_1 : decode cX4_tellPower 1 = .ok (.invokevirtual 33, 3) := by decide +kernel
theorem dX4_tellPower_4 : decode cX4_tellPower 4 = .ok (.aload_n 0, 1) := by decide +kernel
theorem dX4_tellPower_5 : decode cX4_tellPower 5 = .ok (.iconst 1, 1) := by decide +kernel
theorem dX4_tellPower_6 : decode cX4_tellPower 6 = .ok (.bipush 50, 2) := by decide +kernel
theorem dX4_tellPower_8 : decode cX4_tellPower 8 = .ok (.invokevirtual 68, 3) := by decide +kernel
theorem dX4_tellPower_11 : decode cX4_tellPower 11 = .ok (.ifCond .ne 5, 3) := by decide +kernel
theorem dX4_tellPower_14 : decode cX4_tellPower 14 = .ok (.iconst 0, 1) := by decide +kernel
theorem dX4_tellPower_15 : decode cX4_tellPower 15 = .ok (.ireturn, 1) := by decide +kernel
theorem dX4_tellPower_16 : decode cX4_tellPower 16 = .ok (.aload_n 0, 1) := by decide +kernel
theorem dX4_tellPower_17 : decode cX4_tellPower 17 = .ok (.getfield 18, 3) := by decide +kernel
theorem dX4_tellPower_20 : decode cX4_tellPower 20 = .ok (.aload_n 0, 1) := by decide +kernel
theorem dX4_tellPower_21 : decode cX4_tellPower 21 = .ok (.getfield 72, 3) := by decide +kernel
theorem dX4_tellPower_24 : decode cX4_tellPower 24 = .ok (.putfield 77, 3) := by decide +kernel
theorem dX4_tellPower_27 : decode cX4_tellPower 27 = .ok (.aload_n 0, 1) := by decide +kernel
theorem dX4_tellPower_28 : decode cX4_tellPower 28 = .ok (.invokevirtual 33, 3) := by decide +kernel
theorem dX4_tellPower_31 : decode cX4_tellPower 31 = .ok (.iconst 1, 1) := by decide +kernel
theorem dX4_tellPower_32 : decode cX4_tellPower 32 = .ok (.ireturn, 1) := by decide +kernel
theorem dX4_tellCalendar_0 : decode cX4_tellCalendar 0 = .ok (.aload_n 0, 1) := by decide +kernel
theorem dX4_tellCalendar_1 : decode cX4_tellCalendar 1 = .ok (.invokevirtual 79, 3) := by decide +kernel
theorem dX4_tellCalendar_4 : decode cX4_tellCalendar 4 = .ok (.istore_n 1, 1) := by decide +kernel
theorem dX4_tellCalendar_5 : decode cX4_tellCalendar 5 = .ok (.iload_n 1, 1) := by decide +kernel
theorem dX4_tellCalendar_6 : decode cX4_tellCalendar 6 = .ok (.ifCond .lt 15, 3) := by decide +kernel
theorem dX4_tellCalendar_9 : decode cX4_tellCalendar 9 = .ok (.aload_n 0, 1) := by decide +kernel
theorem dX4_tellCalendar_10 : decode cX4_tellCalendar 10 = .ok (.getfield 18, 3) := by decide +kernel
theorem dX4_tellCalendar_13 : decode cX4_tellCalendar 13 = .ok (.getfield 83, 3) := by decide +kernel
theorem dX4_tellCalendar_16 : decode cX4_tellCalendar 16 = .ok (.bipush 6, 2) := by decide +kernel
theorem dX4_tellCalendar_18 : decode cX4_tellCalendar 18 = .ok (.if_icmp .lt 5, 3) := by decide +kernel
theorem dX4_tellCalendar_21 : decode cX4_tellCalendar 21 = .ok (.iconst 0, 1) := by decide +kernel
theorem dX4_tellCalendar_22 : decode cX4_tellCalendar 22 = .ok (.ireturn, 1) := by decide +kernel
theorem dX4_tellCalendar_23 : decode cX4_tellCalendar 23 = .ok (.aload_n 0, 1) := by decide +kernel
theorem dX4_tellCalendar_24 : decode cX4_tellCalendar 24 = .ok (.getfield 18, 3) := by decide +kernel
theorem dX4_tellCalendar_27 : decode cX4_tellCalendar 27 = .ok (.iload_n 1, 1) := by decide +kernel
theorem dX4_tellCalendar_28 : decode cX4_tellCalendar 28 = .ok (.invokevirtual 86, 3) := by decide +kernel
theorem dX4_tellCalendar_31 : decode cX4_tellCalendar 31 = .ok (.aload_n 0, 1) := by decide +kernel
theorem dX4_tellCalendar_32 : decode cX4_tellCalendar 32 = .ok (.invokevirtual 33, 3) := by decide +kernel
theorem dX4_tellCalendar_35 : decode cX4_tellCalendar 35 = .ok (.aload_n 0, 1) := by decide +kernel
theorem dX4_tellCalendar_36 : decode cX4_tellCalendar 36 = .ok (.ldc 90, 2) := by decide +kernel
theorem dX4_tellCalendar_38 : decode cX4_tellCalendar 38 = .ok (.iconst 1, 1) := by decide +kernel
theorem dX4_tellCalendar_39 : decode cX4_tellCalendar 39 = .ok (.invokevirtual 94, 3) := by decide +kernel
theorem dX4_tellCalendar_42 : decode cX4_tellCalendar 42 = .ok (.ifCond .eq 37, 3) := by decide +kernel
theorem dX4_tellCalendar_45 : decode cX4_tellCalendar 45 = .ok (.aload_n 0, 1) := by decide +kernel
theorem dX4_tellCalendar_46 : decode cX4_tellCalendar 46 = .ok (.ldc 98, 2) := by decide +kernel
theorem dX4_tellCalendar_48 : decode cX4_tellCalendar 48 = .ok (.iconst 2, 1) := by decide +kernel
theorem dX4_tellCalendar_49 : decode cX4_tellCalendar 49 = .ok (.invokevirtual 94, 3) := by decide +kernel
theorem dX4_tellCalendar_52 : decode cX4_tellCalendar 52 = .ok (.ifCond .eq 27, 3) := by decide +kernel
theorem dX4_tellCalendar_55 : decode cX4_tellCalendar 55 = .ok (.aload_n 0, 1) := by decide +kernel
theorem dX4_tellCalendar_56 : decode cX4_tellCalendar 56 = .ok (.ldc 99, 2) := by decide +kernel
theorem dX4_tellCalendar_58 : decode cX4_tellCalendar 58 = .ok (.iconst 3, 1) := by decide +kernel
theorem dX4_tellCalendar_59 : decode cX4_tellCalendar 59 = .ok (.invokevirtual 94, 3) := by decide +kernel
theorem dX4_tellCalendar_62 : decode cX4_tellCalendar 62 = .ok (.ifCond .eq 17, 3) := by decide +kernel
theorem dX4_tellCalendar_65 : decode cX4_tellCalendar 65 = .ok (.aload_n 0, 1) := by decide +kernel
theorem dX4_tellCalendar_66 : decode cX4_tellCalendar 66 = .ok (.ldc 101, 2) := by decide +kernel
theorem dX4_tellCalendar_68 : decode cX4_tellCalendar 68 = .ok (.iconst 4, 1) := by decide +kernel
theorem dX4_tellCalendar_69 : decode cX4_tellCalendar 69 = .ok (.invokevirtual 94, 3) := by decide +kernel
theorem dX4_tellCalendar_72 : decode cX4_tellCalendar 72 = .ok (.ifCond .eq 7, 3) := by decide +kernel
theorem dX4_tellCalendar_75 : decode cX4_tellCalendar 75 = .ok (.iconst 1, 1) := by decide +kernel
theorem dX4_tellCalendar_76 : decode cX4_tellCalendar 76 = .ok (.goto 4, 3) := by decide +kernel
theorem dX4_tellCalendar_79 : decode cX4_tellCalendar 79 = .ok (.iconst 0, 1) := by decide +kernel
theorem dX4_tellCalendar_80 : decode cX4_tellCalendar 80 = .ok (.ireturn, 1) := by decide +kernel
theorem dX4_tellField_0 : decode cX4_tellField 0 = .ok (.aload_n 0, 1) := by decide +kernel
theorem dX4_tellField_1 : decode cX4_tellField 1 = .ok (.getfield 18, 3) := by decide +kernel
theorem dX4_tellField_4 : decode cX4_tellField 4 = .ok (.aload_n 0, 1) := by decide +kernel
theorem dX4_tellField_5 : decode cX4_tellField 5 = .ok (.getfield 18, 3) := by decide +kernel
theorem dX4_tellField_8 : decode cX4_tellField 8 = .ok (.getfield 83, 3) := by decide +kernel
theorem dX4_tellField_11 : decode cX4_tellField 11 = .ok (.iconst 1, 1) := by decide +kernel
theorem dX4_tellField_12 : decode cX4_tellField 12 = .ok (.isub, 1) := by decide +kernel
theorem dX4_tellField_13 : decode cX4_tellField 13 = .ok (.invokevirtual 103, 3) := by decide +kernel
theorem dX4_tellField_16 : decode cX4_tellField 16 = .ok (.astore_n 3, 1) := by decide +kernel
theorem dX4_tellField_17 : decode cX4_tellField 17 = .ok (.aload_n 3, 1) := by decide +kernel
theorem dX4_tellField_18 : decode cX4_tellField 18 = .ok (.ifnull 11, 3) := by decide +kernel
theorem dX4_tellField_21 : decode cX4_tellField 21 = .ok (.aload_n 0, 1) := by decide +kernel
theorem dX4_tellField_22 : decode cX4_tellField 22 = .ok (.aload_n 1, 1) := by decide +kernel
theorem dX4_tellField_23 : decode cX4_tellField 23 = .ok (.invokevirtual 48, 3) := by decide +kernel
theorem dX4_tellField_26 : decode cX4_tellField 26 = .ok (.ifCond .ne 5, 3) := by decide +kernel
theorem dX4_tellField_29 : decode cX4_tellField 29 = .ok (.iconst 1, 1) := by decide +kernel
theorem dX4_tellField_30 : decode cX4_tellField 30 = .ok (.ireturn, 1) := by decide +kernel
theorem dX4_tellField_31 : decode cX4_tellField 31 = .ok (.aload_n 0, 1) := by decide +kernel
theorem dX4_tellField_32 : decode cX4_tellField 32 = .ok (.invokevirtual 33, 3) := by decide +kernel
theorem dX4_tellField_35 : decode cX4_tellField 35 = .ok (.aload_n 0, 1) := by decide +kernel
theorem dX4_tellField_36 : decode cX4_tellField 36 = .ok (.getfield 43, 3) := by decide +kernel
theorem dX4_tellField_39 : decode cX4_tellField 39 = .ok (.iconst 2, 1) := by decide +kernel
theorem dX4_tellField_40 : decode cX4_tellField 40 = .ok (.if_icmp .ne 14, 3) := by decide +kernel
theorem dX4_tellField_43 : decode cX4_tellField 43 = .ok (.iload_n 2, 1) := by decide +kernel
theorem dX4_tellField_44 : decode cX4_tellField 44 = .ok (.aload_n 0, 1) := by decide +kernel
theorem dX4_tellField_45 : decode cX4_tellField 45 = .ok (.getfield 72, 3) := by decide +kernel
theorem dX4_tellField_48 : decode cX4_tellField 48 = .ok (.invokestatic 107, 3) := by decide +kernel
theorem dX4_tellField_51 : decode cX4_tellField 51 = .ok (.ifCond .ne 5, 3) := by decide +kernel
theorem dX4_tellField_54 : decode cX4_tellField 54 = .ok (.iconst 0, 1) := by decide +kernel
theorem dX4_tellField_55 : decode cX4_tellField 55 = .ok (.ireturn, 1) := by decide +kernel
theorem dX4_tellField_56 : decode cX4_tellField 56 = .ok (.aload_n 3, 1) := by decide +kernel
theorem dX4_tellField_57 : decode cX4_tellField 57 = .ok (.iload_n 2, 1) := by decide +kernel
theorem dX4_tellField_58 : decode cX4_tellField 58 = .ok (.aload_n 0, 1) := by decide +kernel
theorem dX4_tellField_59 : decode cX4_tellField 59 = .ok (.getfield 72, 3) := by decide +kernel
theorem dX4_tellField_62 : decode cX4_tellField 62 = .ok (.invokevirtual 110, 3) := by decide +kernel
theorem dX4_tellField_65 : decode cX4_tellField 65 = .ok (.pop, 1) := by decide +kernel
theorem dX4_tellField_66 : decode cX4_tellField 66 = .ok (.aload_n 0, 1) := by decide +kernel
theorem dX4_tellField_67 : decode cX4_tellField 67 = .ok (.invokevirtual 33, 3) := by decide +kernel
theorem dX4_tellField_70 : decode cX4_tellField 70 = .ok (.iconst 1, 1) := by decide +kernel
theorem dX4_tellField_71 : decode cX4_tellField 71 = .ok (.ireturn, 1) := by decide +kernel
theorem dX4_tellPilgrim_0 : decode cX4_tellPilgrim 0 = .ok (.aload_n 0, 1) := by decide +kernel
theorem dX4_tellPilgrim_1 : decode cX4_tellPilgrim 1 = .ok (.getfield 18, 3) := by decide +kernel
theorem dX4_tellPilgrim_4 : decode cX4_tellPilgrim 4 = .ok (.getfield 114, 3) := by decide +kernel
theorem dX4_tellPilgrim_7 : decode cX4_tellPilgrim 7 = .ok (.bipush 8, 2) := by decide +kernel
theorem dX4_tellPilgrim_9 : decode cX4_tellPilgrim 9 = .ok (.if_icmp .lt 5, 3) := by decide +kernel
theorem dX4_tellPilgrim_12 : decode cX4_tellPilgrim 12 = .ok (.iconst 0, 1) := by decide +kernel
theorem dX4_tellPilgrim_13 : decode cX4_tellPilgrim 13 = .ok (.ireturn, 1) := by decide +kernel
theorem dX4_tellPilgrim_14 : decode cX4_tellPilgrim 14 = .ok (.aload_n 0, 1) := by decide +kernel
theorem dX4_tellPilgrim_15 : decode cX4_tellPilgrim 15 = .ok (.invokevirtual 33, 3) := by decide +kernel
theorem dX4_tellPilgrim_18 : decode cX4_tellPilgrim 18 = .ok (.aload_n 0, 1) := by decide +kernel
theorem dX4_tellPilgrim_19 : decode cX4_tellPilgrim 19 = .ok (.iconst 0, 1) := by decide +kernel
theorem dX4_tellPilgrim_20 : decode cX4_tellPilgrim 20 = .ok (.bipush 99, 2) := by decide +kernel
theorem dX4_tellPilgrim_22 : decode cX4_tellPilgrim 22 = .ok (.invokevirtual 68, 3) := by decide +kernel
theorem dX4_tellPilgrim_25 : decode cX4_tellPilgrim 25 = .ok (.ifCond .ne 5, 3) := by decide +kernel
theorem dX4_tellPilgrim_28 : decode cX4_tellPilgrim 28 = .ok (.iconst 0, 1) := by decide +kernel
theorem dX4_tellPilgrim_29 : decode cX4_tellPilgrim 29 = .ok (.ireturn, 1) := by decide +kernel
theorem dX4_tellPilgrim_30 : decode cX4_tellPilgrim 30 = .ok (.aload_n 0, 1) := by decide +kernel
theorem dX4_tellPilgrim_31 : decode cX4_tellPilgrim 31 = .ok (.getfield 72, 3) := by decide +kernel
theorem dX4_tellPilgrim_34 : decode cX4_tellPilgrim 34 = .ok (.istore_n 1, 1) := by decide +kernel
theorem dX4_tellPilgrim_35 : decode cX4_tellPilgrim 35 = .ok (.iconst (-1), 1) := by decide +kernel
theorem dX4_tellPilgrim_36 : decode cX4_tellPilgrim 36 = .ok (.istore_n 2, 1) := by decide +kernel
theorem dX4_tellPilgrim_37 : decode cX4_tellPilgrim 37 = .ok (.aload_n 0, 1) := by decide +kernel
theorem dX4_tellPilgrim_38 : decode cX4_tellPilgrim 38 = .ok (.invokevirtual 33, 3) := by decide +kernel
theorem dX4_tellPilgrim_41 : decode cX4_tellPilgrim 41 = .ok (.aload_n 0, 1) := by decide +kernel
theorem dX4_tellPilgrim_42 : decode cX4_tellPilgrim 42 = .ok (.ldc 117, 2) := by decide +kernel
theorem dX4_tellPilgrim_44 : decode cX4_tellPilgrim 44 = .ok (.invokevirtual 48, 3) := by decide +kernel
theorem dX4_tellPilgrim_47 : decode cX4_tellPilgrim 47 = .ok (.ifCond .eq 35, 3) := by decide +kernel
theorem dX4_tellPilgrim_50 : decode cX4_tellPilgrim 50 = .ok (.aload_n 0, 1) := by decide +kernel
theorem dX4_tellPilgrim_51 : decode cX4_tellPilgrim 51 = .ok (.invokevirtual 33, 3) := by decide +kernel
theorem dX4_tellPilgrim_54 : decode cX4_tellPilgrim 54 = .ok (.aload_n 0, 1) := by decide +kernel
theorem dX4_tellPilgrim_55 : decode cX4_tellPilgrim 55 = .ok (.iconst 0, 1) := by decide +kernel
theorem dX4_tellPilgrim_56 : decode cX4_tellPilgrim 56 = .ok (.aload_n 0, 1) := by decide +kernel
theorem dX4_tellPilgrim_57 : decode cX4_tellPilgrim 57 = .ok (.getfield 18, 3) := by decide +kernel
theorem dX4_tellPilgrim_60 : decode cX4_tellPilgrim 60 = .ok (.getfield 83, 3) := by decide +kernel
theorem dX4_tellPilgrim_63 : decode cX4_tellPilgrim 63 = .ok (.iconst 1, 1) := by decide +kernel
theorem dX4_tellPilgrim_64 : decode cX4_tellPilgrim 64 = .ok (.isub, 1) := by decide +kernel
theorem dX4_tellPilgrim_65 : decode cX4_tellPilgrim 65 = .ok (.invokevirtual 68, 3) := by decide +kernel
theorem dX4_tellPilgrim_68 : decode cX4_tellPilgrim 68 = .ok (.ifCond .ne 5, 3) := by decide +kernel
theorem dX4_tellPilgrim_71 : decode cX4_tellPilgrim 71 = .ok (.iconst 0, 1) := by decide +kernel
theorem dX4_tellPilgrim_72 : decode cX4_tellPilgrim 72 = .ok (.ireturn, 1) := by decide +kernel
theorem dX4_tellPilgrim_73 : decode cX4_tellPilgrim 73 = .ok (.aload_n 0, 1) := by decide +kernel
theorem dX4_tellPilgrim_74 : decode cX4_tellPilgrim 74 = .ok (.getfield 72, 3) := by decide +kernel
theorem dX4_tellPilgrim_77 : decode cX4_tellPilgrim 77 = .ok (.istore_n 2, 1) := by decide +kernel
theorem dX4_tellPilgrim_78 : decode cX4_tellPilgrim 78 = .ok (.aload_n 0, 1) := by decide +kernel
theorem dX4_tellPilgrim_79 : decode cX4_tellPilgrim 79 = .ok (.invokevirtual 33, 3) := by decide +kernel
theorem dX4_tellPilgrim_82 : decode cX4_tellPilgrim 82 = .ok (.aload_n 0, 1) := by decide +kernel
theorem dX4_tellPilgrim_83 : decode cX4_tellPilgrim 83 = .ok (.getfield 18, 3) := by decide +kernel
theorem dX4_tellPilgrim_86 : decode cX4_tellPilgrim 86 = .ok (.iload_n 1, 1) := by decide +kernel
theorem dX4_tellPilgrim_87 : decode cX4_tellPilgrim 87 = .ok (.iload_n 2, 1) := by decide +kernel
theorem dX4_tellPilgrim_88 : decode cX4_tellPilgrim 88 = .ok (.invokevirtual 119, 3) := by decide +kernel
theorem dX4_tellPilgrim_91 : decode cX4_tellPilgrim 91 = .ok (.iconst 1, 1) := by decide +kernel
theorem dX4_tellPilgrim_92 : decode cX4_tellPilgrim 92 = .ok (.ireturn, 1) := by decide +kernel
theorem dX4_isNumber_0 : decode cX4_isNumber 0 = .ok (.aload_n 0, 1) := by decide +kernel
theorem dX4_isNumber_1 : decode cX4_isNumber 1 = .ok (.getfield 43, 3) := by decide +kernel
theorem dX4_isNumber_4 : decode cX4_isNumber 4 = .ok (.iconst 2, 1) := by decide +kernel
theorem dX4_isNumber_5 : decode cX4_isNumber 5 = .ok (.if_icmp .ne 19, 3) := by decide +kernel
theorem dX4_isNumber_8 : decode cX4_isNumber 8 = .ok (.aload_n 0, 1) := by decide +kernel
theorem dX4_isNumber_9 : decode cX4_isNumber 9 = .ok (.getfield 72, 3) := by decide +kernel
theorem dX4_isNumber_12 : decode cX4_isNumber 12 = .ok (.iload_n 1, 1) := by decide +kernel
theorem dX4_isNumber_13 : decode cX4_isNumber 13 = .ok (.iload_n 2, 1) := by decide +kernel
theorem dX4_isNumber_14 : decode cX4_isNumber 14 = .ok (.invokestatic 123, 3) := by decide +kernel
theorem dX4_isNumber_17 : decode cX4_isNumber 17 = .ok (.ifCond .eq 7, 3) := by decide +kernel
theorem dX4_isNumber_20 : decode cX4_isNumber 20 = .ok (.iconst 1, 1) := by decide +kernel
theorem dX4_isNumber_21 : decode cX4_isNumber 21 = .ok (.goto 4, 3) := by decide +kernel
theorem dX4_isNumber_24 : decode cX4_isNumber 24 = .ok (.iconst 0, 1) := by decide +kernel
theorem dX4_isNumber_25 : decode cX4_isNumber 25 = .ok (.ireturn, 1) := by decide +kernel
theorem dX4_kindNamed_0 : decode cX4_kindNamed 0 = .ok (.iconst 0, 1) := by decide +kernel
theorem dX4_kindNamed_1 : decode cX4_kindNamed 1 = .ok (.istore_n 1, 1) := by decide +kernel
theorem dX4_kindNamed_2 : decode cX4_kindNamed 2 = .ok (.iload_n 1, 1) := by decide +kernel
theorem dX4_kindNamed_3 : decode cX4_kindNamed 3 = .ok (.iconst 5, 1) := by decide +kernel
theorem dX4_kindNamed_4 : decode cX4_kindNamed 4 = .ok (.if_icmp .gt 22, 3) := by decide +kernel
theorem dX4_kindNamed_7 : decode cX4_kindNamed 7 = .ok (.aload_n 0, 1) := by decide +kernel
theorem dX4_kindNamed_8 : decode cX4_kindNamed 8 = .ok (.iload_n 1, 1) := by decide +kernel
theorem dX4_kindNamed_9 : decode cX4_kindNamed 9 = .ok (.invokestatic 127, 3) := by decide +kernel
theorem dX4_kindNamed_12 : decode cX4_kindNamed 12 = .ok (.invokevirtual 48, 3) := by decide +kernel
theorem dX4_kindNamed_15 : decode cX4_kindNamed 15 = .ok (.ifCond .eq 5, 3) := by decide +kernel
theorem dX4_kindNamed_18 : decode cX4_kindNamed 18 = .ok (.iload_n 1, 1) := by decide +kernel
theorem dX4_kindNamed_19 : decode cX4_kindNamed 19 = .ok (.ireturn, 1) := by decide +kernel
theorem dX4_kindNamed_20 : decode cX4_kindNamed 20 = .ok (.iinc 1 1, 3) := by decide +kernel
theorem dX4_kindNamed_23 : decode cX4_kindNamed 23 = .ok (.goto (-21), 3) := by decide +kernel
theorem dX4_kindNamed_26 : decode cX4_kindNamed 26 = .ok (.iconst (-1), 1) := by decide +kernel
theorem dX4_kindNamed_27 : decode cX4_kindNamed 27 = .ok (.ireturn, 1) := by decide +kernel
theorem dX4_nameOf_0 : decode cX4_nameOf 0 = .ok (.iload_n 0, 1) := by decide +kernel
theorem dX4_nameOf_1 : decode cX4_nameOf 1 = .ok (.tableswitch 50 0 4 #[35, 38, 41, 44, 47], 35) := by decide +kernel
theorem dX4_nameOf_36 : decode cX4_nameOf 36 = .ok (.ldc 131, 2) := by decide +kernel
theorem dX4_nameOf_38 : decode cX4_nameOf 38 = .ok (.areturn, 1) := by decide +kernel
theorem dX4_nameOf_39 : decode cX4_nameOf 39 = .ok (.ldc 133, 2) := by decide +kernel
theorem dX4_nameOf_41 : decode cX4_nameOf 41 = .ok (.areturn, 1) := by decide +kernel
theorem dX4_nameOf_42 : decode cX4_nameOf 42 = .ok (.ldc 135, 2) := by decide +kernel
theorem dX4_nameOf_44 : decode cX4_nameOf 44 = .ok (.areturn, 1) := by decide +kernel
theorem dX4_nameOf_45 : decode cX4_nameOf 45 = .ok (.ldc 137, 2) := by decide +kernel
theorem dX4_nameOf_47 : decode cX4_nameOf 47 = .ok (.areturn, 1) := by decide +kernel
theorem dX4_nameOf_48 : decode cX4_nameOf 48 = .ok (.ldc 139, 2) := by decide +kernel
theorem dX4_nameOf_50 : decode cX4_nameOf 50 = .ok (.areturn, 1) := by decide +kernel
theorem dX4_nameOf_51 : decode cX4_nameOf 51 = .ok (.ldc 141, 2) := by decide +kernel
theorem dX4_nameOf_53 : decode cX4_nameOf 53 = .ok (.areturn, 1) := by decide +kernel
theorem dX4_isWord_0 : decode cX4_isWord 0 = .ok (.aload_n 0, 1) := by decide +kernel
theorem dX4_isWord_1 : decode cX4_isWord 1 = .ok (.getfield 43, 3) := by decide +kernel
theorem dX4_isWord_4 : decode cX4_isWord 4 = .ok (.iconst 1, 1) := by decide +kernel
theorem dX4_isWord_5 : decode cX4_isWord 5 = .ok (.if_icmp .ne 19, 3) := by decide +kernel
theorem dX4_isWord_8 : decode cX4_isWord 8 = .ok (.aload_n 0, 1) := by decide +kernel
theorem dX4_isWord_9 : decode cX4_isWord 9 = .ok (.getfield 30, 3) := by decide +kernel
theorem dX4_isWord_12 : decode cX4_isWord 12 = .ok (.aload_n 0, 1) := by decide +kernel
theorem dX4_isWord_13 : decode cX4_isWord 13 = .ok (.getfield 40, 3) := by decide +kernel
theorem dX4_isWord_16 : decode cX4_isWord 16 = .ok (.isub, 1) := by decide +kernel
theorem dX4_isWord_17 : decode cX4_isWord 17 = .ok (.aload_n 1, 1) := by decide +kernel
theorem dX4_isWord_18 : decode cX4_isWord 18 = .ok (.invokevirtual 143, 3) := by decide +kernel
theorem dX4_isWord_21 : decode cX4_isWord 21 = .ok (.if_icmp .eq 5, 3) := by decide +kernel
theorem dX4_isWord_24 : decode cX4_isWord 24 = .ok (.iconst 0, 1) := by decide +kernel
theorem dX4_isWord_25 : decode cX4_isWord 25 = .ok (.ireturn, 1) := by decide +kernel
theorem dX4_isWord_26 : decode cX4_isWord 26 = .ok (.iconst 0, 1) := by decide +kernel
theorem dX4_isWord_27 : decode cX4_isWord 27 = .ok (.istore_n 2, 1) := by decide +kernel
theorem dX4_isWord_28 : decode cX4_isWord 28 = .ok (.iload_n 2, 1) := by decide +kernel
theorem dX4_isWord_29 : decode cX4_isWord 29 = .ok (.aload_n 1, 1) := by decide +kernel
theorem dX4_isWord_30 : decode cX4_isWord 30 = .ok (.invokevirtual 143, 3) := by decide +kernel
theorem dX4_isWord_33 : decode cX4_isWord 33 = .ok (.if_icmp .ge 29, 3) := by decide +kernel
theorem dX4_isWord_36 : decode cX4_isWord 36 = .ok (.aload_n 0, 1) := by decide +kernel
theorem dX4_isWord_37 : decode cX4_isWord 37 = .ok (.aload_n 0, 1) := by decide +kernel
theorem dX4_isWord_38 : decode cX4_isWord 38 = .ok (.getfield 40, 3) := by decide +kernel
theorem dX4_isWord_41 : decode cX4_isWord 41 = .ok (.iload_n 2, 1) := by decide +kernel
theorem dX4_isWord_42 : decode cX4_isWord 42 = .ok (.iadd, 1) := by decide +kernel
theorem dX4_isWord_43 : decode cX4_isWord 43 = .ok (.invokevirtual 147, 3) := by decide +kernel
theorem dX4_isWord_46 : decode cX4_isWord 46 = .ok (.aload_n 1, 1) := by decide +kernel
theorem dX4_isWord_47 : decode cX4_isWord 47 = .ok (.iload_n 2, 1) := by decide +kernel
theorem dX4_isWord_48 : decode cX4_isWord 48 = .ok (.invokevirtual 151, 3) := by decide +kernel
theorem dX4_isWord_51 : decode cX4_isWord 51 = .ok (.if_icmp .eq 5, 3) := by decide +kernel
theorem dX4_isWord_54 : decode cX4_isWord 54 = .ok (.iconst 0, 1) := by decide +kernel
theorem dX4_isWord_55 : decode cX4_isWord 55 = .ok (.ireturn, 1) := by decide +kernel
theorem dX4_isWord_56 : decode cX4_isWord 56 = .ok (.iinc 2 1, 3) := by decide +kernel
theorem dX4_isWord_59 : decode cX4_isWord 59 = .ok (.goto (-31), 3) := by decide +kernel
theorem dX4_isWord_62 : decode cX4_isWord 62 = .ok (.iconst 1, 1) := by decide +kernel
theorem dX4_isWord_63 : decode cX4_isWord 63 = .ok (.ireturn, 1) := by decide +kernel
theorem dX4_readToken_0 : decode cX4_readToken 0 = .ok (.aload_n 0, 1) := by decide +kernel
theorem dX4_readToken_1 : decode cX4_readToken 1 = .ok (.aload_n 0, 1) := by decide +kernel
theorem dX4_readToken_2 : decode cX4_readToken 2 = .ok (.getfield 30, 3) := by decide +kernel
theorem dX4_readToken_5 : decode cX4_readToken 5 = .ok (.putfield 40, 3) := by decide +kernel
theorem dX4_readToken_8 : decode cX4_readToken 8 = .ok (.aload_n 0, 1) := by decide +kernel
theorem dX4_readToken_9 : decode cX4_readToken 9 = .ok (.getfield 40, 3) := by decide +kernel
theorem dX4_readToken_12 : decode cX4_readToken 12 = .ok (.aload_n 0, 1) := by decide +kernel
theorem dX4_readToken_13 : decode cX4_readToken 13 = .ok (.getfield 22, 3) := by decide +kernel
theorem dX4_readToken_16 : decode cX4_readToken 16 = .ok (.if_icmp .ge 29, 3) := by decide +kernel
theorem dX4_readToken_19 : decode cX4_readToken 19 = .ok (.aload_n 0, 1) := by decide +kernel
theorem dX4_readToken_20 : decode cX4_readToken 20 = .ok (.aload_n 0, 1) := by decide +kernel
theorem dX4_readToken_21 : decode cX4_readToken 21 = .ok (.getfield 40, 3) := by decide +kernel
theorem dX4_readToken_24 : decode cX4_readToken 24 = .ok (.invokevirtual 147, 3) := by decide +kernel
theorem dX4_readToken_27 : decode cX4_readToken 27 = .ok (.bipush 32, 2) := by decide +kernel
theorem dX4_readToken_29 : decode cX4_readToken 29 = .ok (.if_icmp .ne 16, 3) := by decide +kernel
theorem dX4_readToken_32 : decode cX4_readToken 32 = .ok (.aload_n 0, 1) := by decide +kernel
theorem dX4_readToken_33 : decode cX4_readToken 33 = .ok (.dup, 1) := by decide +kernel
theorem dX4_readToken_34 : decode cX4_readToken 34 = .ok (.getfield 40, 3) := by decide +kernel
theorem dX4_readToken_37 : decode cX4_readToken 37 = .ok (.iconst 1, 1) := by decide +kernel
theorem dX4_readToken_38 : decode cX4_readToken 38 = .ok (.iadd, 1) := by decide +kernel
theorem dX4_readToken_39 : decode cX4_readToken 39 = .ok (.putfield 40, 3) := by decide +kernel
theorem dX4_readToken_42 : decode cX4_readToken 42 = .ok (.goto (-34), 3) := by decide +kernel
theorem dX4_readToken_45 : decode cX4_readToken 45 = .ok (.aload_n 0, 1) := by decide +kernel
theorem dX4_readToken_46 : decode cX4_readToken 46 = .ok (.aload_n 0, 1) := by decide +kernel
theorem dX4_readToken_47 : decode cX4_readToken 47 = .ok (.getfield 40, 3) := by decide +kernel
theorem dX4_readToken_50 : decode cX4_readToken 50 = .ok (.putfield 30, 3) := by decide +kernel
theorem dX4_readToken_53 : decode cX4_readToken 53 = .ok (.aload_n 0, 1) := by decide +kernel
theorem dX4_readToken_54 : decode cX4_readToken 54 = .ok (.getfield 40, 3) := by decide +kernel
theorem dX4_readToken_57 : decode cX4_readToken 57 = .ok (.aload_n 0, 1) := by decide +kernel
theorem dX4_readToken_58 : decode cX4_readToken 58 = .ok (.getfield 22, 3) := by decide +kernel
theorem dX4_readToken_61 : decode cX4_readToken 61 = .ok (.if_icmp .lt 11, 3) := by decide +kernel
theorem dX4_readToken_64 : decode cX4_readToken 64 = .ok (.aload_n 0, 1) := by decide +kernel
theorem dX4_readToken_65 : decode cX4_readToken 65 = .ok (.iconst 0, 1) := by decide +kernel
theorem dX4_readToken_66 : decode cX4_readToken 66 = .ok (.putfield 43, 3) := by decide +kernel
theorem dX4_readToken_69 : decode cX4_readToken 69 = .ok (.goto 183, 3) := by decide +kernel
theorem dX4_readToken_72 : decode cX4_readToken 72 = .ok (.aload_n 0, 1) := by decide +kernel
theorem dX4_readToken_73 : decode cX4_readToken 73 = .ok (.aload_n 0, 1) := by decide +kernel
theorem dX4_readToken_74 : decode cX4_readToken 74 = .ok (.getfield 40, 3) := by decide +kernel
theorem dX4_readToken_77 : decode cX4_readToken 77 = .ok (.invokevirtual 147, 3) := by decide +kernel
theorem dX4_readToken_80 : decode cX4_readToken 80 = .ok (.invokestatic 155, 3) := by decide +kernel
theorem dX4_readToken_83 : decode cX4_readToken 83 = .ok (.ifCond .eq 46, 3) := by decide +kernel
theorem dX4_readToken_86 : decode cX4_readToken 86 = .ok (.aload_n 0, 1) := by decide +kernel
theorem dX4_readToken_87 : decode cX4_readToken 87 = .ok (.iconst 1, 1) := by decide +kernel
theorem dX4_readToken_88 : decode cX4_readToken 88 = .ok (.putfield 43, 3) := by decide +kernel
theorem dX4_readToken_91 : decode cX4_readToken 91 = .ok (.aload_n 0, 1) := by decide +kernel
theorem dX4_readToken_92 : decode cX4_readToken 92 = .ok (.getfield 30, 3) := by decide +kernel
theorem dX4_readToken_95 : decode cX4_readToken 95 = .ok (.aload_n 0, 1) := by decide +kernel
theorem dX4_readToken_96 : decode cX4_readToken 96 = .ok (.getfield 22, 3) := by decide +kernel
theorem dX4_readToken_99 : decode cX4_readToken 99 = .ok (.if_icmp .ge 153, 3) := by decide +kernel
theorem dX4_readToken_102 : decode cX4_readToken 102 = .ok (.aload_n 0, 1) := by decide +kernel
theorem dX4_readToken_103 : decode cX4_readToken 103 = .ok (.aload_n 0, 1) := by decide +kernel
theorem dX4_readToken_104 : decode cX4_readToken 104 = .ok (.getfield 30, 3) := by decide +kernel
theorem dX4_readToken_107 : decode cX4_readToken 107 = .ok (.invokevirtual 147, 3) := by decide +kernel
theorem dX4_readToken_110 : decode cX4_readToken 110 = .ok (.invokestatic 155, 3) := by decide +kernel
theorem dX4_readToken_113 : decode cX4_readToken 113 = .ok (.ifCond .eq 139, 3) := by decide +kernel
theorem dX4_readToken_116 : decode cX4_readToken 116 = .ok (.aload_n 0, 1) := by decide +kernel
theorem dX4_readToken_117 : decode cX4_readToken 117 = .ok (.dup, 1) := by decide +kernel
theorem dX4_readToken_118 : decode cX4_readToken 118 = .ok (.getfield 30, 3) := by decide +kernel
theorem dX4_readToken_121 : decode cX4_readToken 121 = .ok (.iconst 1, 1) := by decide +kernel
theorem dX4_readToken_122 : decode cX4_readToken 122 = .ok (.iadd, 1) := by decide +kernel
theorem dX4_readToken_123 : decode cX4_readToken 123 = .ok (.putfield 30, 3) := by decide +kernel
theorem dX4_readToken_126 : decode cX4_readToken 126 = .ok (.goto (-35), 3) := by decide +kernel
theorem dX4_readToken_129 : decode cX4_readToken 129 = .ok (.aload_n 0, 1) := by decide +kernel
theorem dX4_readToken_130 : decode cX4_readToken 130 = .ok (.aload_n 0, 1) := by decide +kernel
theorem dX4_readToken_131 : decode cX4_readToken 131 = .ok (.getfield 40, 3) := by decide +kernel
theorem dX4_readToken_134 : decode cX4_readToken 134 = .ok (.invokevirtual 147, 3) := by decide +kernel
theorem dX4_readToken_137 : decode cX4_readToken 137 = .ok (.invokestatic 159, 3) := by decide +kernel
theorem dX4_readToken_140 : decode cX4_readToken 140 = .ok (.ifCond .eq 80, 3) := by decide +kernel
theorem dX4_readToken_143 : decode cX4_readToken 143 = .ok (.aload_n 0, 1) := by decide +kernel
theorem dX4_readToken_144 : decode cX4_readToken 144 = .ok (.iconst 2, 1) := by decide +kernel
theorem dX4_readToken_145 : decode cX4_readToken 145 = .ok (.putfield 43, 3) := by decide +kernel
theorem dX4_readToken_148 : decode cX4_readToken 148 = .ok (.aload_n 0, 1) := by decide +kernel
theorem dX4_readToken_149 : decode cX4_readToken 149 = .ok (.iconst 0, 1) := by decide +kernel
theorem dX4_readToken_150 : decode cX4_readToken 150 = .ok (.putfield 72, 3) := by decide +kernel
theorem dX4_readToken_153 : decode cX4_readToken 153 = .ok (.aload_n 0, 1) := by decide +kernel
theorem dX4_readToken_154 : decode cX4_readToken 154 = .ok (.getfield 30, 3) := by decide +kernel
theorem dX4_readToken_157 : decode cX4_readToken 157 = .ok (.aload_n 0, 1) := by decide +kernel
theorem dX4_readToken_158 : decode cX4_readToken 158 = .ok (.getfield 22, 3) := by decide +kernel
theorem dX4_readToken_161 : decode cX4_readToken 161 = .ok (.if_icmp .ge 91, 3) := by decide +kernel
theorem dX4_readToken_164 : decode cX4_readToken 164 = .ok (.aload_n 0, 1) := by decide +kernel
theorem dX4_readToken_165 : decode cX4_readToken 165 = .ok (.aload_n 0, 1) := by decide +kernel
theorem dX4_readToken_166 : decode cX4_readToken 166 = .ok (.getfield 30, 3) := by decide +kernel
theorem dX4_readToken_169 : decode cX4_readToken 169 = .ok (.invokevirtual 147, 3) := by decide +kernel
theorem dX4_readToken_172 : decode cX4_readToken 172 = .ok (.invokestatic 159, 3) := by decide +kernel
theorem dX4_readToken_175 : decode cX4_readToken 175 = .ok (.ifCond .eq 77, 3) := by decide +kernel
theorem dX4_readToken_178 : decode cX4_readToken 178 = .ok (.aload_n 0, 1) := by decide +kernel
theorem dX4_readToken_179 : decode cX4_readToken 179 = .ok (.sipush 10000, 3) := by decide +kernel
theorem dX4_readToken_182 : decode cX4_readToken 182 = .ok (.aload_n 0, 1) := by decide +kernel
theorem dX4_readToken_183 : decode cX4_readToken 183 = .ok (.getfield 72, 3) := by decide +kernel
theorem dX4_readToken_186 : decode cX4_readToken 186 = .ok (.bipush 10, 2) := by decide +kernel
theorem dX4_readToken_188 : decode cX4_readToken 188 = .ok (.imul, 1) := by decide +kernel
theorem dX4_readToken_189 : decode cX4_readToken 189 = .ok (.aload_n 0, 1) := by decide +kernel
theorem dX4_readToken_190 : decode cX4_readToken 190 = .ok (.aload_n 0, 1) := by decide +kernel
theorem dX4_readToken_191 : decode cX4_readToken 191 = .ok (.getfield 30, 3) := by decide +kernel
theorem dX4_readToken_194 : decode cX4_readToken 194 = .ok (.invokevirtual 147, 3) := by decide +kernel
theorem dX4_readToken_197 : decode cX4_readToken 197 = .ok (.iadd, 1) := by decide +kernel
theorem dX4_readToken_198 : decode cX4_readToken 198 = .ok (.bipush 48, 2) := by decide +kernel
theorem dX4_readToken_200 : decode cX4_readToken 200 = .ok (.isub, 1) := by decide +kernel
theorem dX4_readToken_201 : decode cX4_readToken 201 = .ok (.invokestatic 162, 3) := by decide +kernel
theorem dX4_readToken_204 : decode cX4_readToken 204 = .ok (.putfield 72, 3) := by decide +kernel
theorem dX4_readToken_207 : decode cX4_readToken 207 = .ok (.aload_n 0, 1) := by decide +kernel
theorem dX4_readToken_208 : decode cX4_readToken 208 = .ok (.dup, 1) := by decide +kernel
theorem dX4_readToken_209 : decode cX4_readToken 209 = .ok (.getfield 30, 3) := by decide +kernel
theorem dX4_readToken_212 : decode cX4_readToken 212 = .ok (.iconst 1, 1) := by decide +kernel
theorem dX4_readToken_213 : decode cX4_readToken 213 = .ok (.iadd, 1) := by decide +kernel
theorem dX4_readToken_214 : decode cX4_readToken 214 = .ok (.putfield 30, 3) := by decide +kernel
theorem dX4_readToken_217 : decode cX4_readToken 217 = .ok (.goto (-64), 3) := by decide +kernel
theorem dX4_readToken_220 : decode cX4_readToken 220 = .ok (.aload_n 0, 1) := by decide +kernel
theorem dX4_readToken_221 : decode cX4_readToken 221 = .ok (.aload_n 0, 1) := by decide +kernel
theorem dX4_readToken_222 : decode cX4_readToken 222 = .ok (.aload_n 0, 1) := by decide +kernel
theorem dX4_readToken_223 : decode cX4_readToken 223 = .ok (.getfield 40, 3) := by decide +kernel
theorem dX4_readToken_226 : decode cX4_readToken 226 = .ok (.invokevirtual 147, 3) := by decide +kernel
theorem dX4_readToken_229 : decode cX4_readToken 229 = .ok (.bipush 59, 2) := by decide +kernel
theorem dX4_readToken_231 : decode cX4_readToken 231 = .ok (.if_icmp .ne 7, 3) := by decide +kernel
theorem dX4_readToken_234 : decode cX4_readToken 234 = .ok (.iconst 3, 1) := by decide +kernel
theorem dX4_readToken_235 : decode cX4_readToken 235 = .ok (.goto 4, 3) := by decide +kernel
theorem dX4_readToken_238 : decode cX4_readToken 238 = .ok (.iconst 4, 1) := by decide +kernel
theorem dX4_readToken_239 : decode cX4_readToken 239 = .ok (.putfield 43, 3) := by decide +kernel
theorem dX4_readToken_242 : decode cX4_readToken 242 = .ok (.aload_n 0, 1) := by decide +kernel
theorem dX4_readToken_243 : decode cX4_readToken 243 = .ok (.aload_n 0, 1) := by decide +kernel
theorem dX4_readToken_244 : decode cX4_readToken 244 = .ok (.getfield 40, 3) := by decide +kernel
theorem dX4_readToken_247 : decode cX4_readToken 247 = .ok (.iconst 1, 1) := by decide +kernel
theorem dX4_readToken_248 : decode cX4_readToken 248 = .ok (.iadd, 1) := by decide +kernel
theorem dX4_readToken_249 : decode cX4_readToken 249 = .ok (.putfield 30, 3) := by decide +kernel
theorem dX4_readToken_252 : decode cX4_readToken 252 = .ok (.return_, 1) := by decide +kernel
theorem dX4_isLetter_0 : decode cX4_isLetter 0 = .ok (.iload_n 0, 1) := by decide +kernel
theorem dX4_isLetter_1 : decode cX4_isLetter 1 = .ok (.bipush 97, 2) := by decide +kernel
theorem dX4_isLetter_3 : decode cX4_isLetter 3 = .ok (.if_icmp .lt 13, 3) := by decide +kernel
theorem dX4_isLetter_6 : decode cX4_isLetter 6 = .ok (.iload_n 0, 1) := by decide +kernel
theorem dX4_isLetter_7 : decode cX4_isLetter 7 = .ok (.bipush 122, 2) := by decide +kernel
theorem dX4_isLetter_9 : decode cX4_isLetter 9 = .ok (.if_icmp .gt 7, 3) := by decide +kernel
theorem dX4_isLetter_12 : decode cX4_isLetter 12 = .ok (.iconst 1, 1) := by decide +kernel
theorem dX4_isLetter_13 : decode cX4_isLetter 13 = .ok (.goto 4, 3) := by decide +kernel
theorem dX4_isLetter_16 : decode cX4_isLetter 16 = .ok (.iconst 0, 1) := by decide +kernel
theorem dX4_isLetter_17 : decode cX4_isLetter 17 = .ok (.ireturn, 1) := by decide +kernel
theorem dX4_isDigit_0 : decode cX4_isDigit 0 = .ok (.iload_n 0, 1) := by decide +kernel
theorem dX4_isDigit_1 : decode cX4_isDigit 1 = .ok (.bipush 48, 2) := by decide +kernel
theorem dX4_isDigit_3 : decode cX4_isDigit 3 = .ok (.if_icmp .lt 13, 3) := by decide +kernel
theorem dX4_isDigit_6 : decode cX4_isDigit 6 = .ok (.iload_n 0, 1) := by decide +kernel
theorem dX4_isDigit_7 : decode cX4_isDigit 7 = .ok (.bipush 57, 2) := by decide +kernel
theorem dX4_isDigit_9 : decode cX4_isDigit 9 = .ok (.if_icmp .gt 7, 3) := by decide +kernel
theorem dX4_isDigit_12 : decode cX4_isDigit 12 = .ok (.iconst 1, 1) := by decide +kernel
theorem dX4_isDigit_13 : decode cX4_isDigit 13 = .ok (.goto 4, 3) := by decide +kernel
theorem dX4_isDigit_16 : decode cX4_isDigit 16 = .ok (.iconst 0, 1) := by decide +kernel
theorem dX4_isDigit_17 : decode cX4_isDigit 17 = .ok (.ireturn, 1) := by decide +kernel
theorem dX4_byteAt_0 : decode cX4_byteAt 0 = .ok (.iload_n 1, 1) := by decide +kernel
theorem dX4_byteAt_1 : decode cX4_byteAt 1 = .ok (.ifCond .lt 29, 3) := by decide +kernel
theorem dX4_byteAt_4 : decode cX4_byteAt 4 = .ok (.iload_n 1, 1) := by decide +kernel
theorem dX4_byteAt_5 : decode cX4_byteAt 5 = .ok (.aload_n 0, 1) := by decide +kernel
theorem dX4_byteAt_6 : decode cX4_byteAt 6 = .ok (.getfield 22, 3) := by decide +kernel
theorem dX4_byteAt_9 : decode cX4_byteAt 9 = .ok (.if_icmp .ge 21, 3) := by decide +kernel
theorem dX4_byteAt_12 : decode cX4_byteAt 12 = .ok (.iload_n 1, 1) := by decide +kernel
theorem dX4_byteAt_13 : decode cX4_byteAt 13 = .ok (.aload_n 0, 1) := by decide +kernel
theorem dX4_byteAt_14 : decode cX4_byteAt 14 = .ok (.getfield 9, 3) := by decide +kernel
theorem dX4_byteAt_17 : decode cX4_byteAt 17 = .ok (.arraylength, 1) := by decide +kernel
theorem dX4_byteAt_18 : decode cX4_byteAt 18 = .ok (.if_icmp .ge 12, 3) := by decide +kernel
theorem dX4_byteAt_21 : decode cX4_byteAt 21 = .ok (.aload_n 0, 1) := by decide +kernel
theorem dX4_byteAt_22 : decode cX4_byteAt 22 = .ok (.getfield 9, 3) := by decide +kernel
theorem dX4_byteAt_25 : decode cX4_byteAt 25 = .ok (.iload_n 1, 1) := by decide +kernel
theorem dX4_byteAt_26 : decode cX4_byteAt 26 = .ok (.baload, 1) := by decide +kernel
theorem dX4_byteAt_27 : decode cX4_byteAt 27 = .ok (.goto 4, 3) := by decide +kernel
theorem dX4_byteAt_30 : decode cX4_byteAt 30 = .ok (.iconst 0, 1) := by decide +kernel
theorem dX4_byteAt_31 : decode cX4_byteAt 31 = .ok (.ireturn, 1) := by decide +kernel
theorem dX5_init_0 : decode cX5_init 0 = .ok (.aload_n 0, 1) := by decide +kernel
theorem dX5_init_1 : decode cX5_init 1 = .ok (.invokespecial 3, 3) := by decide +kernel
theorem dX5_init_4 : decode cX5_init 4 = .ok (.aload_n 0, 1) := by decide +kernel
theorem dX5_init_5 : decode cX5_init 5 = .ok (.new 9, 3) := by decide +kernel
theorem dX5_init_8 : decode cX5_init 8 = .ok (.dup, 1) := by decide +kernel
theorem dX5_init_9 : decode cX5_init 9 = .ok (.invokespecial 11, 3) := by decide +kernel
theorem dX5_init_12 : decode cX5_init 12 = .ok (.putfield 12, 3) := by decide +kernel
theorem dX5_init_15 : decode cX5_init 15 = .ok (.aload_n 0, 1) := by decide +kernel
theorem dX5_init_16 : decode cX5_init 16 = .ok (.new 9, 3) := by decide +kernel
theorem dX5_init_19 : decode cX5_init 19 = .ok (.dup, 1) := by decide +kernel
theorem dX5_init_20 : decode cX5_init 20 = .ok (.invokespecial 11, 3) := by decide +kernel
theorem dX5_init_23 : decode cX5_init 23 = .ok (.putfield 16, 3) := by decide +kernel
theorem dX5_init_26 : decode cX5_init 26 = .ok (.aload_n 0, 1) := by decide +kernel
theorem dX5_init_27 : decode cX5_init 27 = .ok (.new 19, 3) := by decide +kernel
theorem dX5_init_30 : decode cX5_init 30 = .ok (.dup, 1) := by decide +kernel
theorem dX5_init_31 : decode cX5_init 31 = .ok (.invokespecial 21, 3) := by decide +kernel
theorem dX5_init_34 : decode cX5_init 34 = .ok (.putfield 22, 3) := by decide +kernel
theorem dX5_init_37 : decode cX5_init 37 = .ok (.aload_n 0, 1) := by decide +kernel
theorem dX5_init_38 : decode cX5_init 38 = .ok (.iconst 4, 1) := by decide +kernel
theorem dX5_init_39 : decode cX5_init 39 = .ok (.anewarray 26, 3) := by decide +kernel
theorem dX5_init_42 : decode cX5_init 42 = .ok (.putfield 28, 3) := by decide +kernel
theorem dX5_init_45 : decode cX5_init 45 = .ok (.aload_n 0, 1) := by decide +kernel
theorem dX5_init_46 : decode cX5_init 46 = .ok (.bipush 7, 2) := by decide +kernel
theorem dX5_init_48 : decode cX5_init 48 = .ok (.newarray .int, 2) := by decide +kernel
theorem dX5_init_50 : decode cX5_init 50 = .ok (.putfield 32, 3) := by decide +kernel
theorem dX5_init_53 : decode cX5_init 53 = .ok (.aload_n 0, 1) := by decide +kernel
theorem dX5_init_54 : decode cX5_init 54 = .ok (.sipush 400, 3) := by decide +kernel
theorem dX5_init_57 : decode cX5_init 57 = .ok (.newarray .int, 2) := by decide +kernel
theorem dX5_init_59 : decode cX5_init 59 = .ok (.putfield 36, 3) := by decide +kernel
theorem dX5_init_62 : decode cX5_init 62 = .ok (.aload_n 0, 1) := by decide +kernel
theorem dX5_init_63 : decode cX5_init 63 = .ok (.new 39, 3) := by decide +kernel
theorem dX5_init_66 : decode cX5_init 66 = .ok (.dup, 1) := by decide +kernel
theorem dX5_init_67 : decode cX5_init 67 = .ok (.invokespecial 41, 3) := by decide +kernel
theorem dX5_init_70 : decode cX5_init 70 = .ok (.putfield 42, 3) := by decide +kernel
theorem dX5_init_73 : decode cX5_init 73 = .ok (.aload_n 0, 1) := by decide +kernel
theorem dX5_init_74 : decode cX5_init 74 = .ok (.new 46, 3) := by decide +kernel
theorem dX5_init_77 : decode cX5_init 77 = .ok (.dup, 1) := by decide +kernel
theorem dX5_init_78 : decode cX5_init 78 = .ok (.invokespecial 48, 3) := by decide +kernel
theorem dX5_init_81 : decode cX5_init 81 = .ok (.putfield 49, 3) := by decide +kernel
theorem dX5_init_84 : decode cX5_init 84 = .ok (.iconst 0, 1) := by decide +kernel
theorem dX5_init_85 : decode cX5_init 85 = .ok (.istore_n 1, 1) := by decide +kernel
theorem dX5_init_86 : decode cX5_init 86 = .ok (.iload_n 1, 1) := by decide +kernel
theorem dX5_init_87 : decode cX5_init 87 = .ok (.aload_n 0, 1) := by decide +kernel
theorem dX5_init_88 : decode cX5_init 88 = .ok (.getfield 28, 3) := by decide +kernel
theorem dX5_init_91 : decode cX5_init 91 = .ok (.arraylength, 1) := by decide +kernel
theorem dX5_init_92 : decode cX5_init 92 = .ok (.if_icmp .ge 22, 3) := by decide +kernel
theorem dX5_init_95 : decode cX5_init 95 = .ok (.aload_n 0, 1) := by decide +kernel
theorem dX5_init_96 : decode cX5_init 96 = .ok (.getfield 28, 3) := by decide +kernel
theorem dX5_init_99 : decode cX5_init 99 = .ok (.iload_n 1, 1) := by decide +kernel
theorem dX5_init_100 : decode cX5_init 100 = .ok (.new 26, 3) := by decide +kernel
theorem dX5_init_103 : decode cX5_init 103 = .ok (.dup, 1) := by decide +kernel
theorem dX5_init_104 : decode cX5_init 104 = .ok (.invokespecial 53, 3) := by decide +kernel
theorem dX5_init_107 : decode cX5_init 107 = .ok (.aastore, 1) := by decide +kernel
theorem dX5_init_108 : decode cX5_init 108 = .ok (.iinc 1 1, 3) := by decide +kernel
theorem dX5_init_111 : decode cX5_init 111 = .ok (.goto (-25), 3) := by decide +kernel
theorem dX5_init_114 : decode cX5_init 114 = .ok (.return_, 1) := by decide +kernel
theorem dX5_calendar_0 : decode cX5_calendar 0 = .ok (.iconst 0, 1) := by decide +kernel
theorem dX5_calendar_1 : decode cX5_calendar 1 = .ok (.iload_n 1, 1) := by decide +kernel
theorem dX5_calendar_2 : decode cX5_calendar 2 = .ok (.invokestatic 54, 3) := by decide +kernel
theorem dX5_calendar_5 : decode cX5_calendar 5 = .ok (.ifCond .ne 10, 3) := by decide +kernel
theorem dX5_calendar_8 : decode cX5_calendar 8 = .ok (.aload_n 0, 1) := by decide +kernel
theorem dX5_calendar_9 : decode cX5_calendar 9 = .ok (.ldc 58, 2) := by decide +kernel
theorem dX5_calendar_11 : decode cX5_calendar 11 = .ok (.invokevirtual 59, 3) := by decide +kernel
theorem dX5_calendar_14 : decode cX5_calendar 14 = .ok (.ireturn, 1) := by decide +kernel
theorem dX5_calendar_15 : decode cX5_calendar 15 = .ok (.aload_n 0, 1) := by decide +kernel
theorem dX5_calendar_16 : decode cX5_calendar 16 = .ok (.getfield 12, 3) := by decide +kernel
theorem dX5_calendar_19 : decode cX5_calendar 19 = .ok (.getfield 63, 3) := by decide +kernel
theorem dX5_calendar_22 : decode cX5_calendar 22 = .ok (.bipush 6, 2) := by decide +kernel
theorem dX5_calendar_24 : decode cX5_calendar 24 = .ok (.if_icmp .lt 10, 3) := by decide +kernel
theorem dX5_calendar_27 : decode cX5_calendar 27 = .ok (.aload_n 0, 1) := by decide +kernel
theorem dX5_calendar_28 : decode cX5_calendar 28 = .ok (.ldc 67, 2) := by decide +kernel
theorem dX5_calendar_30 : decode cX5_calendar 30 = .ok (.invokevirtual 59, 3) := by decide +kernel
theorem dX5_calendar_33 : decode cX5_calendar 33 = .ok (.ireturn, 1) := by decide +kernel
theorem dX5_calendar_34 : decode cX5_calendar 34 = .ok (.aload_n 0, 1) := by decide +kernel
theorem dX5_calendar_35 : decode cX5_calendar 35 = .ok (.getfield 12, 3) := by decide +kernel
theorem dX5_calendar_38 : decode cX5_calendar 38 = .ok (.iload_n 1, 1) := by decide +kernel
theorem dX5_calendar_39 : decode cX5_calendar 39 = .ok (.invokevirtual 68, 3) := by decide +kernel
theorem dX5_calendar_42 : decode cX5_calendar 42 = .ok (.aload_n 0, 1) := by decide +kernel
theorem dX5_calendar_43 : decode cX5_calendar 43 = .ok (.getfield 12, 3) := by decide +kernel
theorem dX5_calendar_46 : decode cX5_calendar 46 = .ok (.getfield 63, 3) := by decide +kernel
theorem dX5_calendar_49 : decode cX5_calendar 49 = .ok (.iconst 1, 1) := by decide +kernel
theorem dX5_calendar_50 : decode cX5_calendar 50 = .ok (.isub, 1) := by decide +kernel
theorem dX5_calendar_51 : decode cX5_calendar 51 = .ok (.ireturn, 1) := by decide +kernel
theorem dX5_of_0 : decode cX5_of 0 = .ok (.aload_n 0, 1) := by decide +kernel
theorem dX5_of_1 : decode cX5_of 1 = .ok (.getfield 12, 3) := by decide +kernel
theorem dX5_of_4 : decode cX5_of 4 = .ok (.iload_n 1, 1) := by decide +kernel
theorem dX5_of_5 : decode cX5_of 5 = .ok (.invokevirtual 72, 3) := by decide +kernel
theorem dX5_of_8 : decode cX5_of 8 = .ok (.astore_n 3, 1) := by decide +kernel
theorem dX5_of_9 : decode cX5_of 9 = .ok (.aload_n 3, 1) := by decide +kernel
theorem dX5_of_10 : decode cX5_of 10 = .ok (.ifnull 10, 3) := by decide +kernel
theorem dX5_of_13 : decode cX5_of 13 = .ok (.iload_n 2, 1) := by decide +kernel
theorem dX5_of_14 : decode cX5_of 14 = .ok (.invokestatic 76, 3) := by decide +kernel
theorem dX5_of_17 : decode cX5_of 17 = .ok (.ifCond .ne 10, 3) := by decide +kernel
theorem dX5_of_20 : decode cX5_of 20 = .ok (.aload_n 0, 1) := by decide +kernel
theorem dX5_of_21 : decode cX5_of 21 = .ok (.ldc 58, 2) := by decide +kernel
theorem dX5_of_23 : decode cX5_of 23 = .ok (.invokevirtual 59, 3) := by decide +kernel
theorem dX5_of_26 : decode cX5_of 26 = .ok (.ireturn, 1) := by decide +kernel
theorem dX5_of_27 : decode cX5_of 27 = .ok (.aload_n 3, 1) := by decide +kernel
theorem dX5_of_28 : decode cX5_of 28 = .ok (.iload_n 2, 1) := by decide +kernel
theorem dX5_of_29 : decode cX5_of 29 = .ok (.invokevirtual 80, 3) := by decide +kernel
theorem dX5_of_32 : decode cX5_of 32 = .ok (.ireturn, 1) := by decide +kernel
theorem dX5_set_0 : decode cX5_set 0 = .ok (.aload_n 0, 1) := by decide +kernel
theorem dX5_set_1 : decode cX5_set 1 = .ok (.getfield 12, 3) := by decide +kernel
theorem dX5_set_4 : decode cX5_set 4 = .ok (.iload_n 1, 1) := by decide +kernel
theorem dX5_set_5 : decode cX5_set 5 = .ok (.invokevirtual 72, 3) := by decide +kernel
theorem dX5_set_8 : decode cX5_set 8 = .ok (.astore 4, 2) := by decide +kernel
theorem dX5_set_10 : decode cX5_set 10 = .ok (.aload 4, 2) := by decide +kernel
theorem dX5_set_12 : decode cX5_set 12 = .ok (.ifnull 15, 3) := by decide +kernel
theorem dX5_set_15 : decode cX5_set 15 = .ok (.iload_n 2, 1) := by decide +kernel
theorem dX5_set_16 : decode cX5_set 16 = .ok (.ifCond .eq 11, 3) := by decide +kernel
theorem dX5_set_19 : decode cX5_set 19 = .ok (.iload_n 2, 1) := by decide +kernel
theorem dX5_set_20 : decode cX5_set 20 = .ok (.iload_n 3, 1) := by decide +kernel
theorem dX5_set_21 : decode cX5_set 21 = .ok (.invokestatic 54, 3) := by decide +kernel
theorem dX5_set_24 : decode cX5_set 24 = .ok (.ifCond .ne 10, 3) := by decide +kernel
theorem dX5_set_27 : decode cX5_set 27 = .ok (.aload_n 0, 1) := by decide +kernel
theorem dX5_set_28 : decode cX5_set 28 = .ok (.ldc 58, 2) := by decide +kernel
theorem dX5_set_30 : decode cX5_set 30 = .ok (.invokevirtual 59, 3) := by decide +kernel
theorem dX5_set_33 : decode cX5_set 33 = .ok (.ireturn, 1) := by decide +kernel
theorem dX5_set_34 : decode cX5_set 34 = .ok (.aload 4, 2) := by decide +kernel
theorem dX5_set_36 : decode cX5_set 36 = .ok (.iload_n 2, 1) := by decide +kernel
theorem dX5_set_37 : decode cX5_set 37 = .ok (.iload_n 3, 1) := by decide +kernel
theorem dX5_set_38 : decode cX5_set 38 = .ok (.invokevirtual 83, 3) := by decide +kernel
theorem dX5_set_41 : decode cX5_set 41 = .ok (.ireturn, 1) := by decide +kernel
theorem dX5_turn_0 : decode cX5_turn 0 = .ok (.aload_n 0, 1) := by decide +kernel
theorem dX5_turn_1 : decode cX5_turn 1 = .ok (.getfield 12, 3) := by decide +kernel
theorem dX5_turn_4 : decode cX5_turn 4 = .ok (.iload_n 1, 1) := by decide +kernel
theorem dX5_turn_5 : decode cX5_turn 5 = .ok (.invokevirtual 72, 3) := by decide +kernel
theorem dX5_turn_8 : decode cX5_turn 8 = .ok (.astore_n 3, 1) := by decide +kernel
theorem dX5_turn_9 : decode cX5_turn 9 = .ok (.aload_n 3, 1) := by decide +kernel
theorem dX5_turn_10 : decode cX5_turn 10 = .ok (.ifnull 11, 3) := by decide +kernel
theorem dX5_turn_13 : decode cX5_turn 13 = .ok (.iconst 0, 1) := by decide +kernel
theorem dX5_turn_14 : decode cX5_turn 14 = .ok (.iload_n 2, 1) := by decide +kernel
theorem dX5_turn_15 : decode cX5_turn 15 = .ok (.invokestatic 54, 3) := by decide +kernel
theorem dX5_turn_18 : decode cX5_turn 18 = .ok (.ifCond .ne 10, 3) := by decide +kernel
theorem dX5_turn_21 : decode cX5_turn 21 = .ok (.aload_n 0, 1) := by decide +kernel
theorem dX5_turn_22 : decode cX5_turn 22 = .ok (.ldc 58, 2) := by decide +kernel
theorem dX5_turn_24 : decode cX5_turn 24 = .ok (.invokevirtual 59, 3) := by decide +kernel
theorem dX5_turn_27 : decode cX5_turn 27 = .ok (.ireturn, 1) := by decide +kernel
theorem dX5_turn_28 : decode cX5_turn 28 = .ok (.aload_n 3, 1) := by decide +kernel
theorem dX5_turn_29 : decode cX5_turn 29 = .ok (.iconst 0, 1) := by decide +kernel
theorem dX5_turn_30 : decode cX5_turn 30 = .ok (.iload_n 2, 1) := by decide +kernel
theorem dX5_turn_31 : decode cX5_turn 31 = .ok (.invokevirtual 83, 3) := by decide +kernel
theorem dX5_turn_34 : decode cX5_turn 34 = .ok (.ireturn, 1) := by decide +kernel
theorem dX5_as_0 : decode cX5_as 0 = .ok (.aload_n 0, 1) := by decide +kernel
theorem dX5_as_1 : decode cX5_as 1 = .ok (.getfield 12, 3) := by decide +kernel
theorem dX5_as_4 : decode cX5_as 4 = .ok (.iload_n 1, 1) := by decide +kernel
theorem dX5_as_5 : decode cX5_as 5 = .ok (.invokevirtual 72, 3) := by decide +kernel
theorem dX5_as_8 : decode cX5_as 8 = .ok (.astore_n 3, 1) := by decide +kernel
theorem dX5_as_9 : decode cX5_as 9 = .ok (.aload_n 3, 1) := by decide +kernel
theorem dX5_as_10 : decode cX5_as 10 = .ok (.ifnull 11, 3) := by decide +kernel
theorem dX5_as_13 : decode cX5_as 13 = .ok (.iconst 0, 1) := by decide +kernel
theorem dX5_as_14 : decode cX5_as 14 = .ok (.iload_n 2, 1) := by decide +kernel
theorem dX5_as_15 : decode cX5_as 15 = .ok (.invokestatic 54, 3) := by decide +kernel
theorem dX5_as_18 : decode cX5_as 18 = .ok (.ifCond .ne 10, 3) := by decide +kernel
theorem dX5_as_21 : decode cX5_as 21 = .ok (.aload_n 0, 1) := by decide +kernel
theorem dX5_as_22 : decode cX5_as 22 = .ok (.ldc 58, 2) := by decide +kernel
theorem dX5_as_24 : decode cX5_as 24 = .ok (.invokevirtual 59, 3) := by decide +kernel
theorem dX5_as_27 : decode cX5_as 27 = .ok (.ireturn, 1) := by decide +kernel
theorem dX5_as_28 : decode cX5_as 28 = .ok (.aload_n 3, 1) := by decide +kernel
theorem dX5_as_29 : decode cX5_as 29 = .ok (.iload_n 2, 1) := by decide +kernel
theorem dX5_as_30 : decode cX5_as 30 = .ok (.invokevirtual 87, 3) := by decide +kernel
theorem dX5_as_33 : decode cX5_as 33 = .ok (.ifCond .ne 10, 3) := by decide +kernel
theorem dX5_as_36 : decode cX5_as 36 = .ok (.aload_n 0, 1) := by decide +kernel
theorem dX5_as_37 : decode cX5_as 37 = .ok (.ldc 90, 2) := by decide +kernel
theorem dX5_as_39 : decode cX5_as 39 = .ok (.invokevirtual 59, 3) := by decide +kernel
theorem dX5_as_42 : decode cX5_as 42 = .ok (.ireturn, 1) := by decide +kernel
theorem dX5_as_43 : decode cX5_as 43 = .ok (.aload_n 3, 1) := by decide +kernel
theorem dX5_as_44 : decode cX5_as 44 = .ok (.iconst 1, 1) := by decide +kernel
theorem dX5_as_45 : decode cX5_as 45 = .ok (.invokevirtual 80, 3) := by decide +kernel
theorem dX5_as_48 : decode cX5_as 48 = .ok (.ireturn, 1) := by decide +kernel
theorem dX5_date_0 : decode cX5_date 0 = .ok (.aload_n 0, 1) := by decide +kernel
theorem dX5_date_1 : decode cX5_date 1 = .ok (.getfield 12, 3) := by decide +kernel
theorem dX5_date_4 : decode cX5_date 4 = .ok (.iload_n 1, 1) := by decide +kernel
theorem dX5_date_5 : decode cX5_date 5 = .ok (.invokevirtual 72, 3) := by decide +kernel
theorem dX5_date_8 : decode cX5_date 8 = .ok (.astore 4, 2) := by decide +kernel
theorem dX5_date_10 : decode cX5_date 10 = .ok (.aload 4, 2) := by decide +kernel
theorem dX5_date_12 : decode cX5_date 12 = .ok (.ifnull 22, 3) := by decide +kernel
theorem dX5_date_15 : decode cX5_date 15 = .ok (.iload_n 2, 1) := by decide +kernel
theorem dX5_date_16 : decode cX5_date 16 = .ok (.iconst 0, 1) := by decide +kernel
theorem dX5_date_17 : decode cX5_date 17 = .ok (.ldc 91, 2) := by decide +kernel
theorem dX5_date_19 : decode cX5_date 19 = .ok (.invokestatic 92, 3) := by decide +kernel
theorem dX5_date_22 : decode cX5_date 22 = .ok (.ifCond .eq 12, 3) := by decide +kernel
theorem dX5_date_25 : decode cX5_date 25 = .ok (.iload_n 3, 1) := by decide +kernel
theorem dX5_date_26 : decode cX5_date 26 = .ok (.iconst 0, 1) := by decide +kernel
theorem dX5_date_27 : decode cX5_date 27 = .ok (.iconst 3, 1) := by decide +kernel
theorem dX5_date_28 : decode cX5_date 28 = .ok (.invokestatic 92, 3) := by decide +kernel
theorem dX5_date_31 : decode cX5_date 31 = .ok (.ifCond .ne 10, 3) := by decide +kernel
theorem dX5_date_34 : decode cX5_date 34 = .ok (.aload_n 0, 1) := by decide +kernel
theorem dX5_date_35 : decode cX5_date 35 = .ok (.ldc 58, 2) := by decide +kernel
theorem dX5_date_37 : decode cX5_date 37 = .ok (.invokevirtual 59, 3) := by decide +kernel
theorem dX5_date_40 : decode cX5_date 40 = .ok (.ireturn, 1) := by decide +kernel
theorem dX5_date_41 : decode cX5_date 41 = .ok (.iload_n 3, 1) := by decide +kernel
theorem dX5_date_42 : decode cX5_date 42 = .ok (.tableswitch 55 0 2 #[26, 33, 40], 26) := by decide +kernel
theorem dX5_date_68 : decode cX5_date 68 = .ok (.aload 4, 2) := by decide +kernel
theorem dX5_date_70 : decode cX5_date 70 = .ok (.iload_n 2, 1) := by decide +kernel
theorem dX5_date_71 : decode cX5_date 71 = .ok (.invokevirtual 96, 3) := by decide +kernel
theorem dX5_date_74 : decode cX5_date 74 = .ok (.ireturn, 1) := by decide +kernel
theorem dX5_date_75 : decode cX5_date 75 = .ok (.aload 4, 2) := by decide +kernel
theorem dX5_date_77 : decode cX5_date 77 = .ok (.iload_n 2, 1) := by decide +kernel
theorem dX5_date_78 : decode cX5_date 78 = .ok (.invokevirtual 99, 3) := by decide +kernel
theorem dX5_date_81 : decode cX5_date 81 = .ok (.ireturn, 1) := by decide +kernel
theorem dX5_date_82 : decode cX5_date 82 = .ok (.aload 4, 2) := by decide +kernel
theorem dX5_date_84 : decode cX5_date 84 = .ok (.iload_n 2, 1) := by decide +kernel
theorem dX5_date_85 : decode cX5_date 85 = .ok (.invokevirtual 102, 3) := by decide +kernel
theorem dX5_date_88 : decode cX5_date 88 = .ok (.ifCond .eq 7, 3) := by decide +kernel
theorem dX5_date_91 : decode cX5_date 91 = .ok (.iconst 1, 1) := by decide +kernel
theorem dX5_date_92 : decode cX5_date 92 = .ok (.goto 4, 3) := by decide +kernel
theorem dX5_date_95 : decode cX5_date 95 = .ok (.iconst 0, 1) := by decide +kernel
theorem dX5_date_96 : decode cX5_date 96 = .ok (.ireturn, 1) := by decide +kernel
theorem dX5_date_97 : decode cX5_date 97 = .ok (.aload 4, 2) := by decide +kernel
theorem dX5_date_99 : decode cX5_date 99 = .ok (.iload_n 2, 1) := by decide +kernel
theorem dX5_date_100 : decode cX5_date 100 = .ok (.invokevirtual 105, 3) := by decide +kernel
theorem dX5_date_103 : decode cX5_date 103 = .ok (.ireturn, 1) := by decide +kernel
theorem dX5_law_0 : decode cX5_law 0 = .ok (.iload_n 1, 1) := by decide +kernel
theorem dX5_law_1 : decode cX5_law 1 = .ok (.ifCond .ne 31, 3) := by decide +kernel
theorem dX5_law_4 : decode cX5_law 4 = .ok (.iload_n 2, 1) := by decide +kernel
theorem dX5_law_5 : decode cX5_law 5 = .ok (.iconst 1, 1) := by decide +kernel
theorem dX5_law_6 : decode cX5_law 6 = .ok (.bipush 50, 2) := by decide +kernel
theorem dX5_law_8 : decode cX5_law 8 = .ok (.invokestatic 92, 3) := by decide +kernel
theorem dX5_law_11 : decode cX5_law 11 = .ok (.ifCond .eq 21, 3) := by decide +kernel
theorem dX5_law_14 : decode cX5_law 14 = .ok (.aload_n 0, 1) := by decide +kernel
theorem dX5_law_15 : decode cX5_law 15 = .ok (.getfield 12, 3) := by decide +kernel
theorem dX5_law_18 : decode cX5_law 18 = .ok (.getfield 108, 3) := by decide +kernel
theorem dX5_law_21 : decode cX5_law 21 = .ok (.istore_n 3, 1) := by decide +kernel
theorem dX5_law_22 : decode cX5_law 22 = .ok (.aload_n 0, 1) := by decide +kernel
theorem dX5_law_23 : decode cX5_law 23 = .ok (.getfield 12, 3) := by decide +kernel
theorem dX5_law_26 : decode cX5_law 26 = .ok (.iload_n 2, 1) := by decide +kernel
theorem dX5_law_27 : decode cX5_law 27 = .ok (.putfield 108, 3) := by decide +kernel
theorem dX5_law_30 : decode cX5_law 30 = .ok (.iload_n 3, 1) := by decide +kernel
theorem dX5_law_31 : decode cX5_law 31 = .ok (.ireturn, 1) := by decide +kernel
theorem dX5_law_32 : decode cX5_law 32 = .ok (.iload_n 1, 1) := by decide +kernel
theorem dX5_law_33 : decode cX5_law 33 = .ok (.iconst 1, 1) := by decide +kernel
theorem dX5_law_34 : decode cX5_law 34 = .ok (.if_icmp .ne 30, 3) := by decide +kernel
theorem dX5_law_37 : decode cX5_law 37 = .ok (.iload_n 2, 1) := by decide +kernel
theorem dX5_law_38 : decode cX5_law 38 = .ok (.iconst 0, 1) := by decide +kernel
theorem dX5_law_39 : decode cX5_law 39 = .ok (.iconst 5, 1) := by decide +kernel
theorem dX5_law_40 : decode cX5_law 40 = .ok (.invokestatic 92, 3) := by decide +kernel
theorem dX5_law_43 : decode cX5_law 43 = .ok (.ifCond .eq 21, 3) := by decide +kernel
theorem dX5_law_46 : decode cX5_law 46 = .ok (.aload_n 0, 1) := by decide +kernel
theorem dX5_law_47 : decode cX5_law 47 = .ok (.getfield 12, 3) := by decide +kernel
theorem dX5_law_50 : decode cX5_law 50 = .ok (.getfield 111, 3) := by decide +kernel
theorem dX5_law_53 : decode cX5_law 53 = .ok (.istore_n 3, 1) := by decide +kernel
theorem dX5_law_54 : decode cX5_law 54 = .ok (.aload_n 0, 1) := by decide +kernel
theorem dX5_law_55 : decode cX5_law 55 = .ok (.getfield 12, 3) := by decide +kernel
theorem dX5_law_58 : decode cX5_law 58 = .ok (.iload_n 2, 1) := by decide +kernel
theorem dX5_law_59 : decode cX5_law 59 = .ok (.putfield 111, 3) := by decide +kernel
theorem dX5_law_62 : decode cX5_law 62 = .ok (.iload_n 3, 1) := by decide +kernel
theorem dX5_law_63 : decode cX5_law 63 = .ok (.ireturn, 1) := by decide +kernel
theorem dX5_law_64 : decode cX5_law 64 = .ok (.aload_n 0, 1) := by decide +kernel
theorem dX5_law_65 : decode cX5_law 65 = .ok (.ldc 58, 2) := by decide +kernel
theorem dX5_law_67 : decode cX5_law 67 = .ok (.invokevirtual 59, 3) := by decide +kernel
theorem dX5_law_70 : decode cX5_law 70 = .ok (.ireturn, 1) := by decide +kernel
theorem dX5_pilgrim_0 : decode cX5_pilgrim 0 = .ok (.iload_n 1, 1) := by decide +kernel
theorem dX5_pilgrim_1 : decode cX5_pilgrim 1 = .ok (.iconst 0, 1) := by decide +kernel
theorem dX5_pilgrim_2 : decode cX5_pilgrim 2 = .ok (.bipush 99, 2) := by decide +kernel
theorem dX5_pilgrim_4 : decode cX5_pilgrim 4 = .ok (.invokestatic 92, 3) := by decide +kernel
theorem dX5_pilgrim_7 : decode cX5_pilgrim 7 = .ok (.ifCond .eq 14, 3) := by decide +kernel
theorem dX5_pilgrim_10 : decode cX5_pilgrim 10 = .ok (.aload_n 0, 1) := by decide +kernel
theorem dX5_pilgrim_11 : decode cX5_pilgrim 11 = .ok (.getfield 12, 3) := by decide +kernel
theorem dX5_pilgrim_14 : decode cX5_pilgrim 14 = .ok (.iload_n 2, 1) := by decide +kernel
theorem dX5_pilgrim_15 : decode cX5_pilgrim 15 = .ok (.invokevirtual 114, 3) := by decide +kernel
theorem dX5_pilgrim_18 : decode cX5_pilgrim 18 = .ok (.ifCond .ne 10, 3) := by decide +kernel
theorem dX5_pilgrim_21 : decode cX5_pilgrim 21 = .ok (.aload_n 0, 1) := by decide +kernel
theorem dX5_pilgrim_22 : decode cX5_pilgrim 22 = .ok (.ldc 58, 2) := by decide +kernel
theorem dX5_pilgrim_24 : decode cX5_pilgrim 24 = .ok (.invokevirtual 59, 3) := by decide +kernel
theorem dX5_pilgrim_27 : decode cX5_pilgrim 27 = .ok (.ireturn, 1) := by decide +kernel
theorem dX5_pilgrim_28 : decode cX5_pilgrim 28 = .ok (.aload_n 0, 1) := by decide +kernel
theorem dX5_pilgrim_29 : decode cX5_pilgrim 29 = .ok (.getfield 12, 3) := by decide +kernel
theorem dX5_pilgrim_32 : decode cX5_pilgrim 32 = .ok (.getfield 117, 3) := by decide +kernel
theorem dX5_pilgrim_35 : decode cX5_pilgrim 35 = .ok (.bipush 8, 2) := by decide +kernel
theorem dX5_pilgrim_37 : decode cX5_pilgrim 37 = .ok (.if_icmp .lt 10, 3) := by decide +kernel
theorem dX5_pilgrim_40 : decode cX5_pilgrim 40 = .ok (.aload_n 0, 1) := by decide +kernel
theorem dX5_pilgrim_41 : decode cX5_pilgrim 41 = .ok (.ldc 67, 2) := by decide +kernel
theorem dX5_pilgrim_43 : decode cX5_pilgrim 43 = .ok (.invokevirtual 59, 3) := by decide +kernel
theorem dX5_pilgrim_46 : decode cX5_pilgrim 46 = .ok (.ireturn, 1) := by decide +kernel
theorem dX5_pilgrim_47 : decode cX5_pilgrim 47 = .ok (.aload_n 0, 1) := by decide +kernel
theorem dX5_pilgrim_48 : decode cX5_pilgrim 48 = .ok (.getfield 12, 3) := by decide +kernel
theorem dX5_pilgrim_51 : decode cX5_pilgrim 51 = .ok (.iload_n 1, 1) := by decide +kernel
theorem dX5_pilgrim_52 : decode cX5_pilgrim 52 = .ok (.iload_n 2, 1) := by decide +kernel
theorem dX5_pilgrim_53 : decode cX5_pilgrim 53 = .ok (.invokevirtual 120, 3) := by decide +kernel
theorem dX5_pilgrim_56 : decode cX5_pilgrim 56 = .ok (.aload_n 0, 1) := by decide +kernel
theorem dX5_pilgrim_57 : decode cX5_pilgrim 57 = .ok (.getfield 12, 3) := by decide +kernel
theorem dX5_pilgrim_60 : decode cX5_pilgrim 60 = .ok (.getfield 117, 3) := by decide +kernel
theorem dX5_pilgrim_63 : decode cX5_pilgrim 63 = .ok (.iconst 1, 1) := by decide +kernel
theorem dX5_pilgrim_64 : decode cX5_pilgrim 64 = .ok (.isub, 1) := by decide +kernel
theorem dX5_pilgrim_65 : decode cX5_pilgrim 65 = .ok (.ireturn, 1) := by decide +kernel
theorem dX5_about_0 : decode cX5_about 0 = .ok (.aload_n 0, 1) := by decide +kernel
theorem dX5_about_1 : decode cX5_about 1 = .ok (.getfield 12, 3) := by decide +kernel
theorem dX5_about_4 : decode cX5_about 4 = .ok (.iload_n 1, 1) := by decide +kernel
theorem dX5_about_5 : decode cX5_about 5 = .ok (.invokevirtual 124, 3) := by decide +kernel
theorem dX5_about_8 : decode cX5_about 8 = .ok (.astore_n 3, 1) := by decide +kernel
theorem dX5_about_9 : decode cX5_about 9 = .ok (.aload_n 3, 1) := by decide +kernel
theorem dX5_about_10 : decode cX5_about 10 = .ok (.ifnull 12, 3) := by decide +kernel
theorem dX5_about_13 : decode cX5_about 13 = .ok (.iload_n 2, 1) := by decide +kernel
theorem dX5_about_14 : decode cX5_about 14 = .ok (.iconst 0, 1) := by decide +kernel
theorem dX5_about_15 : decode cX5_about 15 = .ok (.iconst 2, 1) := by decide +kernel
theorem dX5_about_16 : decode cX5_about 16 = .ok (.invokestatic 92, 3) := by decide +kernel
theorem dX5_about_19 : decode cX5_about 19 = .ok (.ifCond .ne 10, 3) := by decide +kernel
theorem dX5_about_22 : decode cX5_about 22 = .ok (.aload_n 0, 1) := by decide +kernel
theorem dX5_about_23 : decode cX5_about 23 = .ok (.ldc 58, 2) := by decide +kernel
theorem dX5_about_25 : decode cX5_about 25 = .ok (.invokevirtual 59, 3) := by decide +kernel
theorem dX5_about_28 : decode cX5_about 28 = .ok (.ireturn, 1) := by decide +kernel
theorem dX5_about_29 : decode cX5_about 29 = .ok (.iload_n 2, 1) := by decide +kernel
theorem dX5_about_30 : decode cX5_about 30 = .ok (.ifCond .ne 8, 3) := by decide +kernel
theorem dX5_about_33 : decode cX5_about 33 = .ok (.aload_n 3, 1) := by decide +kernel
theorem dX5_about_34 : decode cX5_about 34 = .ok (.getfield 128, 3) := by decide +kernel
theorem dX5_about_37 : decode cX5_about 37 = .ok (.ireturn, 1) := by decide +kernel
theorem dX5_about_38 : decode cX5_about 38 = .ok (.iload_n 2, 1) := by decide +kernel
theorem dX5_about_39 : decode cX5_about 39 = .ok (.iconst 1, 1) := by decide +kernel
theorem dX5_about_40 : decode cX5_about 40 = .ok (.if_icmp .ne 10, 3) := by decide +kernel
theorem dX5_about_43 : decode cX5_about 43 = .ok (.aload_n 3, 1) := by decide +kernel
theorem dX5_about_44 : decode cX5_about 44 = .ok (.getfield 131, 3) := by decide +kernel
theorem dX5_about_47 : decode cX5_about 47 = .ok (.goto 7, 3) := by decide +kernel
theorem dX5_about_50 : decode cX5_about 50 = .ok (.aload_n 3, 1) := by decide +kernel
theorem dX5_about_51 : decode cX5_about 51 = .ok (.getfield 134, 3) := by decide +kernel
theorem dX5_about_54 : decode cX5_about 54 = .ok (.ireturn, 1) := by decide +kernel
theorem dX5_mind_0 : decode cX5_mind 0 = .ok (.aload_n 0, 1) := by decide +kernel
theorem dX5_mind_1 : decode cX5_mind 1 = .ok (.getfield 12, 3) := by decide +kernel
theorem dX5_mind_4 : decode cX5_mind 4 = .ok (.iload_n 1, 1) := by decide +kernel
theorem dX5_mind_5 : decode cX5_mind 5 = .ok (.invokevirtual 124, 3) := by decide +kernel
theorem dX5_mind_8 : decode cX5_mind 8 = .ok (.astore 4, 2) := by decide +kernel
theorem dX5_mind_10 : decode cX5_mind 10 = .ok (.aload 4, 2) := by decide +kernel
theorem dX5_mind_12 : decode cX5_mind 12 = .ok (.ifnonnull 10, 3) := by decide +kernel
theorem dX5_mind_15 : decode cX5_mind 15 = .ok (.aload_n 0, 1) := by decide +kernel
theorem dX5_mind_16 : decode cX5_mind 16 = .ok (.ldc 58, 2) := by decide +kernel
theorem dX5_mind_18 : decode cX5_mind 18 = .ok (.invokevirtual 59, 3) := by decide +kernel
theorem dX5_mind_21 : decode cX5_mind 21 = .ok (.ireturn, 1) := by decide +kernel
theorem dX5_mind_22 : decode cX5_mind 22 = .ok (.iload_n 2, 1) := by decide +kernel
theorem dX5_mind_23 : decode cX5_mind 23 = .ok (.ifCond .ne 29, 3) := by decide +kernel
theorem dX5_mind_26 : decode cX5_mind 26 = .ok (.iload_n 3, 1) := by decide +kernel
theorem dX5_mind_27 : decode cX5_mind 27 = .ok (.iconst 0, 1) := by decide +kernel
theorem dX5_mind_28 : decode cX5_mind 28 = .ok (.bipush 99, 2) := by decide +kernel
theorem dX5_mind_30 : decode cX5_mind 30 = .ok (.invokestatic 92, 3) := by decide +kernel
theorem dX5_mind_33 : decode cX5_mind 33 = .ok (.ifCond .eq 19, 3) := by decide +kernel
theorem dX5_mind_36 : decode cX5_mind 36 = .ok (.aload 4, 2) := by decide +kernel
theorem dX5_mind_38 : decode cX5_mind 38 = .ok (.getfield 128, 3) := by decide +kernel
theorem dX5_mind_41 : decode cX5_mind 41 = .ok (.istore 5, 2) := by decide +kernel
theorem dX5_mind_43 : decode cX5_mind 43 = .ok (.aload 4, 2) := by decide +kernel
theorem dX5_mind_45 : decode cX5_mind 45 = .ok (.iload_n 3, 1) := by decide +kernel
theorem dX5_mind_46 : decode cX5_mind 46 = .ok (.putfield 128, 3) := by decide +kernel
theorem dX5_mind_49 : decode cX5_mind 49 = .ok (.iload 5, 2) := by decide +kernel
theorem dX5_mind_51 : decode cX5_mind 51 = .ok (.ireturn, 1) := by decide +kernel
theorem dX5_mind_52 : decode cX5_mind 52 = .ok (.iload_n 2, 1) := by decide +kernel
theorem dX5_mind_53 : decode cX5_mind 53 = .ok (.iconst 1, 1) := by decide +kernel
theorem dX5_mind_54 : decode cX5_mind 54 = .ok (.if_icmp .ne 30, 3) := by decide +kernel
theorem dX5_mind_57 : decode cX5_mind 57 = .ok (.aload_n 0, 1) := by decide +kernel
theorem dX5_mind_58 : decode cX5_mind 58 = .ok (.getfield 12, 3) := by decide +kernel
theorem dX5_mind_61 : decode cX5_mind 61 = .ok (.iload_n 3, 1) := by decide +kernel
theorem dX5_mind_62 : decode cX5_mind 62 = .ok (.invokevirtual 114, 3) := by decide +kernel
theorem dX5_mind_65 : decode cX5_mind 65 = .ok (.ifCond .eq 19, 3) := by decide +kernel
theorem dX5_mind_68 : decode cX5_mind 68 = .ok (.aload 4, 2) := by decide +kernel
theorem dX5_mind_70 : decode cX5_mind 70 = .ok (.getfield 131, 3) := by decide +kernel
theorem dX5_mind_73 : decode cX5_mind 73 = .ok (.istore 5, 2) := by decide +kernel
theorem dX5_mind_75 : decode cX5_mind 75 = .ok (.aload 4, 2) := by decide +kernel
theorem dX5_mind_77 : decode cX5_mind 77 = .ok (.iload_n 3, 1) := by decide +kernel
theorem dX5_mind_78 : decode cX5_mind 78 = .ok (.putfield 131, 3) := by decide +kernel
theorem dX5_mind_81 : decode cX5_mind 81 = .ok (.iload 5, 2) := by decide +kernel
theorem dX5_mind_83 : decode cX5_mind 83 = .ok (.ireturn, 1) := by decide +kernel
theorem dX5_mind_84 : decode cX5_mind 84 = .ok (.aload_n 0, 1) := by decide +kernel
theorem dX5_mind_85 : decode cX5_mind 85 = .ok (.ldc 58, 2) := by decide +kernel
theorem dX5_mind_87 : decode cX5_mind 87 = .ok (.invokevirtual 59, 3) := by decide +kernel
theorem dX5_mind_90 : decode cX5_mind 90 = .ok (.ireturn, 1) := by decide +kernel
theorem dX5_drink_0 : decode cX5_drink 0 = .ok (.aload_n 0, 1) := by decide +kernel
theorem dX5_drink_1 : decode cX5_drink 1 = .ok (.getfield 12, 3) := by decide +kernel
theorem dX5_drink_4 : decode cX5_drink 4 = .ok (.iload_n 1, 1) := by decide +kernel
theorem dX5_drink_5 : decode cX5_drink 5 = .ok (.invokevirtual 124, 3) := by decide +kernel
theorem dX5_drink_8 : decode cX5_drink 8 = .ok (.astore_n 3, 1) := by decide +kernel
theorem dX5_drink_9 : decode cX5_drink 9 = .ok (.aload_n 3, 1) := by decide +kernel
theorem dX5_drink_10 : decode cX5_drink 10 = .ok (.ifnull 12, 3) := by decide +kernel
theorem dX5_drink_13 : decode cX5_drink 13 = .ok (.iload_n 2, 1) := by decide +kernel
theorem dX5_drink_14 : decode cX5_drink 14 = .ok (.iconst 0, 1) := by decide +kernel
theorem dX5_drink_15 : decode cX5_drink 15 = .ok (.iconst 1, 1) := by decide +kernel
theorem dX5_drink_16 : decode cX5_drink 16 = .ok (.invokestatic 92, 3) := by decide +kernel
theorem dX5_drink_19 : decode cX5_drink 19 = .ok (.ifCond .ne 10, 3) := by decide +kernel
theorem dX5_drink_22 : decode cX5_drink 22 = .ok (.aload_n 0, 1) := by decide +kernel
theorem dX5_drink_23 : decode cX5_drink 23 = .ok (.ldc 58, 2) := by decide +kernel
theorem dX5_drink_25 : decode cX5_drink 25 = .ok (.invokevirtual 59, 3) := by decide +kernel
theorem dX5_drink_28 : decode cX5_drink 28 = .ok (.ireturn, 1) := by decide +kernel
theorem dX5_drink_29 : decode cX5_drink 29 = .ok (.iload_n 2, 1) := by decide +kernel
theorem dX5_drink_30 : decode cX5_drink 30 = .ok (.iconst 1, 1) := by decide +kernel
theorem dX5_drink_31 : decode cX5_drink 31 = .ok (.if_icmp .ne 7, 3) := by decide +kernel
theorem dX5_drink_34 : decode cX5_drink 34 = .ok (.iconst 1, 1) := by decide +kernel
theorem dX5_drink_35 : decode cX5_drink 35 = .ok (.goto 4, 3) := by decide +kernel
theorem dX5_drink_38 : decode cX5_drink 38 = .ok (.iconst 0, 1) := by decide +kernel
theorem dX5_drink_39 : decode cX5_drink 39 = .ok (.istore 4, 2) := by decide +kernel
theorem dX5_drink_41 : decode cX5_drink 41 = .ok (.aload_n 0, 1) := by decide +kernel
theorem dX5_drink_42 : decode cX5_drink 42 = .ok (.getfield 12, 3) := by decide +kernel
theorem dX5_drink_45 : decode cX5_drink 45 = .ok (.iload 4, 2) := by decide +kernel
theorem dX5_drink_47 : decode cX5_drink 47 = .ok (.invokevirtual 137, 3) := by decide +kernel
theorem dX5_drink_50 : decode cX5_drink 50 = .ok (.ifCond .ne 10, 3) := by decide +kernel
theorem dX5_drink_53 : decode cX5_drink 53 = .ok (.aload_n 0, 1) := by decide +kernel
theorem dX5_drink_54 : decode cX5_drink 54 = .ok (.ldc 141, 2) := by decide +kernel
theorem dX5_drink_56 : decode cX5_drink 56 = .ok (.invokevirtual 59, 3) := by decide +kernel
theorem dX5_drink_59 : decode cX5_drink 59 = .ok (.ireturn, 1) := by decide +kernel
theorem dX5_drink_60 : decode cX5_drink 60 = .ok (.aload_n 3, 1) := by decide +kernel
theorem dX5_drink_61 : decode cX5_drink 61 = .ok (.iload 4, 2) := by decide +kernel
theorem dX5_drink_63 : decode cX5_drink 63 = .ok (.aload_n 0, 1) := by decide +kernel
theorem dX5_drink_64 : decode cX5_drink 64 = .ok (.getfield 12, 3) := by decide +kernel
theorem dX5_drink_67 : decode cX5_drink 67 = .ok (.getfield 108, 3) := by decide +kernel
theorem dX5_drink_70 : decode cX5_drink 70 = .ok (.invokevirtual 142, 3) := by decide +kernel
theorem dX5_drink_73 : decode cX5_drink 73 = .ok (.aload_n 3, 1) := by decide +kernel
theorem dX5_drink_74 : decode cX5_drink 74 = .ok (.getfield 128, 3) := by decide +kernel
theorem dX5_drink_77 : decode cX5_drink 77 = .ok (.ireturn, 1) := by decide +kernel
theorem dX5_bathe_0 : decode cX5_bathe 0 = .ok (.aload_n 0, 1) := by decide +kernel
theorem dX5_bathe_1 : decode cX5_bathe 1 = .ok (.getfield 12, 3) := by decide +kernel
theorem dX5_bathe_4 : decode cX5_bathe 4 = .ok (.iload_n 1, 1) := by decide +kernel
theorem dX5_bathe_5 : decode cX5_bathe 5 = .ok (.invokevirtual 124, 3) := by decide +kernel
theorem dX5_bathe_8 : decode cX5_bathe 8 = .ok (.astore_n 2, 1) := by decide +kernel
theorem dX5_bathe_9 : decode cX5_bathe 9 = .ok (.aload_n 2, 1) := by decide +kernel
theorem dX5_bathe_10 : decode cX5_bathe 10 = .ok (.ifnonnull 10, 3) := by decide +kernel
theorem dX5_bathe_13 : decode cX5_bathe 13 = .ok (.aload_n 0, 1) := by decide +kernel
theorem dX5_bathe_14 : decode cX5_bathe 14 = .ok (.ldc 58, 2) := by decide +kernel
theorem dX5_bathe_16 : decode cX5_bathe 16 = .ok (.invokevirtual 59, 3) := by decide +kernel
theorem dX5_bathe_19 : decode cX5_bathe 19 = .ok (.ireturn, 1) := by decide +kernel
theorem dX5_bathe_20 : decode cX5_bathe 20 = .ok (.aload_n 2, 1) := by decide +kernel
theorem dX5_bathe_21 : decode cX5_bathe 21 = .ok (.aload_n 0, 1) := by decide +kernel
theorem dX5_bathe_22 : decode cX5_bathe 22 = .ok (.getfield 12, 3) := by decide +kernel
theorem dX5_bathe_25 : decode cX5_bathe 25 = .ok (.aload_n 0, 1) := by decide +kernel
theorem dX5_bathe_26 : decode cX5_bathe 26 = .ok (.getfield 12, 3) := by decide +kernel
theorem dX5_bathe_29 : decode cX5_bathe 29 = .ok (.getfield 111, 3) := by decide +kernel
theorem dX5_bathe_32 : decode cX5_bathe 32 = .ok (.aload_n 0, 1) := by decide +kernel
theorem dX5_bathe_33 : decode cX5_bathe 33 = .ok (.getfield 12, 3) := by decide +kernel
theorem dX5_bathe_36 : decode cX5_bathe 36 = .ok (.getfield 146, 3) := by decide +kernel
theorem dX5_bathe_39 : decode cX5_bathe 39 = .ok (.invokevirtual 149, 3) := by decide +kernel
theorem dX5_bathe_42 : decode cX5_bathe 42 = .ok (.aload_n 0, 1) := by decide +kernel
theorem dX5_bathe_43 : decode cX5_bathe 43 = .ok (.getfield 12, 3) := by decide +kernel
theorem dX5_bathe_46 : decode cX5_bathe 46 = .ok (.getfield 108, 3) := by decide +kernel
theorem dX5_bathe_49 : decode cX5_bathe 49 = .ok (.invokevirtual 152, 3) := by decide +kernel
theorem dX5_bathe_52 : decode cX5_bathe 52 = .ok (.aload_n 2, 1) := by decide +kernel
theorem dX5_bathe_53 : decode cX5_bathe 53 = .ok (.getfield 128, 3) := by decide +kernel
theorem dX5_bathe_56 : decode cX5_bathe 56 = .ok (.ireturn, 1) := by decide +kernel
theorem dX5_days_0 : decode cX5_days 0 = .ok (.iload_n 1, 1) := by decide +kernel
theorem dX5_days_1 : decode cX5_days 1 = .ok (.iconst 1, 1) := by decide +kernel
theorem dX5_days_2 : decode cX5_days 2 = .ok (.sipush 400, 3) := by decide +kernel
theorem dX5_days_5 : decode cX5_days 5 = .ok (.invokestatic 92, 3) := by decide +kernel
theorem dX5_days_8 : decode cX5_days 8 = .ok (.ifCond .ne 10, 3) := by decide +kernel
theorem dX5_days_11 : decode cX5_days 11 = .ok (.aload_n 0, 1) := by decide +kernel
theorem dX5_days_12 : decode cX5_days 12 = .ok (.ldc 58, 2) := by decide +kernel
theorem dX5_days_14 : decode cX5_days 14 = .ok (.invokevirtual 59, 3) := by decide +kernel
theorem dX5_days_17 : decode cX5_days 17 = .ok (.ireturn, 1) := by decide +kernel
theorem dX5_days_18 : decode cX5_days 18 = .ok (.aload_n 0, 1) := by decide +kernel
theorem dX5_days_19 : decode cX5_days 19 = .ok (.getfield 12, 3) := by decide +kernel
theorem dX5_days_22 : decode cX5_days 22 = .ok (.getfield 146, 3) := by decide +kernel
theorem dX5_days_25 : decode cX5_days 25 = .ok (.ldc 91, 2) := by decide +kernel
theorem dX5_days_27 : decode cX5_days 27 = .ok (.iload_n 1, 1) := by decide +kernel
theorem dX5_days_28 : decode cX5_days 28 = .ok (.isub, 1) := by decide +kernel
theorem dX5_days_29 : decode cX5_days 29 = .ok (.if_icmp .le 10, 3) := by decide +kernel
theorem dX5_days_32 : decode cX5_days 32 = .ok (.aload_n 0, 1) := by decide +kernel
theorem dX5_days_33 : decode cX5_days 33 = .ok (.ldc 141, 2) := by decide +kernel
theorem dX5_days_35 : decode cX5_days 35 = .ok (.invokevirtual 59, 3) := by decide +kernel
theorem dX5_days_38 : decode cX5_days 38 = .ok (.ireturn, 1) := by decide +kernel
theorem dX5_days_39 : decode cX5_days 39 = .ok (.iconst 0, 1) := by decide +kernel
theorem dX5_days_40 : decode cX5_days 40 = .ok (.istore_n 2, 1) := by decide +kernel
theorem dX5_days_41 : decode cX5_days 41 = .ok (.iload_n 2, 1) := by decide +kernel
theorem dX5_days_42 : decode cX5_days 42 = .ok (.iload_n 1, 1) := by decide +kernel
theorem dX5_days_43 : decode cX5_days 43 = .ok (.if_icmp .ge 16, 3) := by decide +kernel
theorem dX5_days_46 : decode cX5_days 46 = .ok (.aload_n 0, 1) := by decide +kernel
theorem dX5_days_47 : decode cX5_days 47 = .ok (.getfield 12, 3) := by decide +kernel
theorem dX5_days_50 : decode cX5_days 50 = .ok (.invokevirtual 155, 3) := by decide +kernel
theorem dX5_days_53 : decode cX5_days 53 = .ok (.iinc 2 1, 3) := by decide +kernel
theorem dX5_days_56 : decode cX5_days 56 = .ok (.goto (-15), 3) := by decide +kernel
theorem dX5_days_59 : decode cX5_days 59 = .ok (.aload_n 0, 1) := by decide +kernel
theorem dX5_days_60 : decode cX5_days 60 = .ok (.getfield 12, 3) := by decide +kernel
theorem dX5_days_63 : decode cX5_days 63 = .ok (.invokevirtual 158, 3) := by decide +kernel
theorem dX5_days_66 : decode cX5_days 66 = .ok (.invokestatic 162, 3) := by decide +kernel
theorem dX5_days_69 : decode cX5_days 69 = .ok (.ireturn, 1) := by decide +kernel
theorem dX5_now_0 : decode cX5_now 0 = .ok (.iload_n 1, 1) := by decide +kernel
theorem dX5_now_1 : decode cX5_now 1 = .ok (.tableswitch 99 0 6 #[43, 51, 59, 67, 75, 83, 91], 43) := by decide +kernel
theorem dX5_now_44 : decode cX5_now 44 = .ok (.aload_n 0, 1) := by decide +kernel
theorem dX5_now_45 : decode cX5_now 45 = .ok (.getfield 12, 3) := by decide +kernel
theorem dX5_now_48 : decode cX5_now 48 = .ok (.getfield 146, 3) := by decide +kernel
theorem dX5_now_51 : decode cX5_now 51 = .ok (.ireturn, 1) := by decide +kernel
theorem dX5_now_52 : decode cX5_now 52 = .ok (.aload_n 0, 1) := by decide +kernel
theorem dX5_now_53 : decode cX5_now 53 = .ok (.getfield 12, 3) := by decide +kernel
theorem dX5_now_56 : decode cX5_now 56 = .ok (.getfield 108, 3) := by decide +kernel
theorem dX5_now_59 : decode cX5_now 59 = .ok (.ireturn, 1) := by decide +kernel
theorem dX5_now_60 : decode cX5_now 60 = .ok (.aload_n 0, 1) := by decide +kernel
theorem dX5_now_61 : decode cX5_now 61 = .ok (.getfield 12, 3) := by decide +kernel
theorem dX5_now_64 : decode cX5_now 64 = .ok (.getfield 111, 3) := by decide +kernel
theorem dX5_now_67 : decode cX5_now 67 = .ok (.ireturn, 1) := by decide +kernel
theorem dX5_now_68 : decode cX5_now 68 = .ok (.aload_n 0, 1) := by decide +kernel
theorem dX5_now_69 : decode cX5_now 69 = .ok (.getfield 12, 3) := by decide +kernel
theorem dX5_now_72 : decode cX5_now 72 = .ok (.getfield 167, 3) := by decide +kernel
theorem dX5_now_75 : decode cX5_now 75 = .ok (.ireturn, 1) := by decide +kernel
theorem dX5_now_76 : decode cX5_now 76 = .ok (.aload_n 0, 1) := by decide +kernel
theorem dX5_now_77 : decode cX5_now 77 = .ok (.getfield 12, 3) := by decide +kernel
theorem dX5_now_80 : decode cX5_now 80 = .ok (.getfield 170, 3) := by decide +kernel
theorem dX5_now_83 : decode cX5_now 83 = .ok (.ireturn, 1) := by decide +kernel
theorem dX5_now_84 : decode cX5_now 84 = .ok (.aload_n 0, 1) := by decide +kernel
theorem dX5_now_85 : decode cX5_now 85 = .ok (.getfield 12, 3) := by decide +kernel
theorem dX5_now_88 : decode cX5_now 88 = .ok (.invokevirtual 173, 3) := by decide +kernel
theorem dX5_now_91 : decode cX5_now 91 = .ok (.ireturn, 1) := by decide +kernel
theorem dX5_now_92 : decode cX5_now 92 = .ok (.aload_n 0, 1) := by decide +kernel
theorem dX5_now_93 : decode cX5_now 93 = .ok (.getfield 12, 3) := by decide +kernel
theorem dX5_now_96 : decode cX5_now 96 = .ok (.invokevirtual 158, 3) := by decide +kernel
theorem dX5_now_99 : decode cX5_now 99 = .ok (.ireturn, 1) := by decide +kernel
theorem dX5_now_100 : decode cX5_now 100 = .ok (.aload_n 0, 1) := by decide +kernel
theorem dX5_now_101 : decode cX5_now 101 = .ok (.ldc 58, 2) := by decide +kernel
theorem dX5_now_103 : decode cX5_now 103 = .ok (.invokevirtual 59, 3) := by decide +kernel
theorem dX5_now_106 : decode cX5_now 106 = .ok (.ireturn, 1) := by decide +kernel
theorem dX5_on_0 : decode cX5_on 0 = .ok (.aload_n 0, 1) := by decide +kernel
theorem dX5_on_1 : decode cX5_on 1 = .ok (.getfield 12, 3) := by decide +kernel
theorem dX5_on_4 : decode cX5_on 4 = .ok (.iload_n 1, 1) := by decide +kernel
theorem dX5_on_5 : decode cX5_on 5 = .ok (.invokevirtual 124, 3) := by decide +kernel
theorem dX5_on_8 : decode cX5_on 8 = .ok (.astore 4, 2) := by decide +kernel
theorem dX5_on_10 : decode cX5_on 10 = .ok (.aload 4, 2) := by decide +kernel
theorem dX5_on_12 : decode cX5_on 12 = .ok (.ifnull 23, 3) := by decide +kernel
theorem dX5_on_15 : decode cX5_on 15 = .ok (.iload_n 2, 1) := by decide +kernel
theorem dX5_on_16 : decode cX5_on 16 = .ok (.iconst 0, 1) := by decide +kernel
theorem dX5_on_17 : decode cX5_on 17 = .ok (.sipush 400, 3) := by decide +kernel
theorem dX5_on_20 : decode cX5_on 20 = .ok (.invokestatic 92, 3) := by decide +kernel
theorem dX5_on_23 : decode cX5_on 23 = .ok (.ifCond .eq 12, 3) := by decide +kernel
theorem dX5_on_26 : decode cX5_on 26 = .ok (.iload_n 3, 1) := by decide +kernel
theorem dX5_on_27 : decode cX5_on 27 = .ok (.iconst 0, 1) := by decide +kernel
theorem dX5_on_28 : decode cX5_on 28 = .ok (.iconst 1, 1) := by decide +kernel
theorem dX5_on_29 : decode cX5_on 29 = .ok (.invokestatic 92, 3) := by decide +kernel
theorem dX5_on_32 : decode cX5_on 32 = .ok (.ifCond .ne 10, 3) := by decide +kernel
theorem dX5_on_35 : decode cX5_on 35 = .ok (.aload_n 0, 1) := by decide +kernel
theorem dX5_on_36 : decode cX5_on 36 = .ok (.ldc 58, 2) := by decide +kernel
theorem dX5_on_38 : decode cX5_on 38 = .ok (.invokevirtual 59, 3) := by decide +kernel
theorem dX5_on_41 : decode cX5_on 41 = .ok (.ireturn, 1) := by decide +kernel
theorem dX5_on_42 : decode cX5_on 42 = .ok (.aload_n 0, 1) := by decide +kernel
theorem dX5_on_43 : decode cX5_on 43 = .ok (.iload_n 2, 1) := by decide +kernel
theorem dX5_on_44 : decode cX5_on 44 = .ok (.invokevirtual 176, 3) := by decide +kernel
theorem dX5_on_47 : decode cX5_on 47 = .ok (.aload_n 0, 1) := by decide +kernel
theorem dX5_on_48 : decode cX5_on 48 = .ok (.aload 4, 2) := by decide +kernel
theorem dX5_on_50 : decode cX5_on 50 = .ok (.iload_n 2, 1) := by decide +kernel
theorem dX5_on_51 : decode cX5_on 51 = .ok (.aload_n 0, 1) := by decide +kernel
theorem dX5_on_52 : decode cX5_on 52 = .ok (.getfield 12, 3) := by decide +kernel
theorem dX5_on_55 : decode cX5_on 55 = .ok (.getfield 111, 3) := by decide +kernel
theorem dX5_on_58 : decode cX5_on 58 = .ok (.aload_n 0, 1) := by decide +kernel
theorem dX5_on_59 : decode cX5_on 59 = .ok (.getfield 12, 3) := by decide +kernel
theorem dX5_on_62 : decode cX5_on 62 = .ok (.getfield 108, 3) := by decide +kernel
theorem dX5_on_65 : decode cX5_on 65 = .ok (.invokevirtual 179, 3) := by decide +kernel
theorem dX5_on_68 : decode cX5_on 68 = .ok (.iload_n 3, 1) := by decide +kernel
theorem dX5_on_69 : decode cX5_on 69 = .ok (.ifCond .ne 13, 3) := by decide +kernel
theorem dX5_on_72 : decode cX5_on 72 = .ok (.aload_n 0, 1) := by decide +kernel
theorem dX5_on_73 : decode cX5_on 73 = .ok (.getfield 42, 3) := by decide +kernel
theorem dX5_on_76 : decode cX5_on 76 = .ok (.getfield 128, 3) := by decide +kernel
theorem dX5_on_79 : decode cX5_on 79 = .ok (.goto 10, 3) := by decide +kernel
theorem dX5_on_82 : decode cX5_on 82 = .ok (.aload_n 0, 1) := by decide +kernel
theorem dX5_on_83 : decode cX5_on 83 = .ok (.getfield 42, 3) := by decide +kernel
theorem dX5_on_86 : decode cX5_on 86 = .ok (.getfield 134, 3) := by decide +kernel
theorem dX5_on_89 : decode cX5_on 89 = .ok (.ireturn, 1) := by decide +kernel
theorem dX5_well_0 : decode cX5_well 0 = .ok (.aload_n 0, 1) := by decide +kernel
theorem dX5_well_1 : decode cX5_well 1 = .ok (.getfield 12, 3) := by decide +kernel
theorem dX5_well_4 : decode cX5_well 4 = .ok (.iload_n 1, 1) := by decide +kernel
theorem dX5_well_5 : decode cX5_well 5 = .ok (.invokevirtual 124, 3) := by decide +kernel
theorem dX5_well_8 : decode cX5_well 8 = .ok (.astore_n 2, 1) := by decide +kernel
theorem dX5_well_9 : decode cX5_well 9 = .ok (.aload_n 2, 1) := by decide +kernel
theorem dX5_well_10 : decode cX5_well 10 = .ok (.ifnonnull 10, 3) := by decide +kernel
theorem dX5_well_13 : decode cX5_well 13 = .ok (.aload_n 0, 1) := by decide +kernel
theorem dX5_well_14 : decode cX5_well 14 = .ok (.ldc 58, 2) := by decide +kernel
theorem dX5_well_16 : decode cX5_well 16 = .ok (.invokevirtual 59, 3) := by decide +kernel
theorem dX5_well_19 : decode cX5_well 19 = .ok (.ireturn, 1) := by decide +kernel
theorem dX5_well_20 : decode cX5_well 20 = .ok (.aload_n 0, 1) := by decide +kernel
theorem dX5_well_21 : decode cX5_well 21 = .ok (.sipush 400, 3) := by decide +kernel
theorem dX5_well_24 : decode cX5_well 24 = .ok (.invokevirtual 176, 3) := by decide +kernel
theorem dX5_well_27 : decode cX5_well 27 = .ok (.aload_n 0, 1) := by decide +kernel
theorem dX5_well_28 : decode cX5_well 28 = .ok (.aload_n 2, 1) := by decide +kernel
theorem dX5_well_29 : decode cX5_well 29 = .ok (.aload_n 2, 1) := by decide +kernel
theorem dX5_well_30 : decode cX5_well 30 = .ok (.getfield 131, 3) := by decide +kernel
theorem dX5_well_33 : decode cX5_well 33 = .ok (.invokevirtual 183, 3) := by decide +kernel
theorem dX5_well_36 : decode cX5_well 36 = .ok (.istore_n 3, 1) := by decide +kernel
theorem dX5_well_37 : decode cX5_well 37 = .ok (.iload_n 3, 1) := by decide +kernel
theorem dX5_well_38 : decode cX5_well 38 = .ok (.sipush 401, 3) := by decide +kernel
theorem dX5_well_41 : decode cX5_well 41 = .ok (.if_icmp .ne 12, 3) := by decide +kernel
theorem dX5_well_44 : decode cX5_well 44 = .ok (.aload_n 0, 1) := by decide +kernel
theorem dX5_well_45 : decode cX5_well 45 = .ok (.ldc 187, 2) := by decide +kernel
theorem dX5_well_47 : decode cX5_well 47 = .ok (.invokevirtual 59, 3) := by decide +kernel
theorem dX5_well_50 : decode cX5_well 50 = .ok (.goto 4, 3) := by decide +kernel
theorem dX5_well_53 : decode cX5_well 53 = .ok (.iload_n 3, 1) := by decide +kernel
theorem dX5_well_54 : decode cX5_well 54 = .ok (.ireturn, 1) := by decide +kernel
theorem dX5_next_0 : decode cX5_next 0 = .ok (.aload_n 0, 1) := by decide +kernel
theorem dX5_next_1 : decode cX5_next 1 = .ok (.getfield 12, 3) := by decide +kernel
theorem dX5_next_4 : decode cX5_next 4 = .ok (.iload_n 1, 1) := by decide +kernel
theorem dX5_next_5 : decode cX5_next 5 = .ok (.invokevirtual 72, 3) := by decide +kernel
theorem dX5_next_8 : decode cX5_next 8 = .ok (.astore_n 2, 1) := by decide +kernel
theorem dX5_next_9 : decode cX5_next 9 = .ok (.aload_n 2, 1) := by decide +kernel
theorem dX5_next_10 : decode cX5_next 10 = .ok (.ifnonnull 10, 3) := by decide +kernel
theorem dX5_next_13 : decode cX5_next 13 = .ok (.aload_n 0, 1) := by decide +kernel
theorem dX5_next_14 : decode cX5_next 14 = .ok (.ldc 58, 2) := by decide +kernel
theorem dX5_next_16 : decode cX5_next 16 = .ok (.invokevirtual 59, 3) := by decide +kernel
theorem dX5_next_19 : decode cX5_next 19 = .ok (.ireturn, 1) := by decide +kernel
theorem dX5_next_20 : decode cX5_next 20 = .ok (.iconst 0, 1) := by decide +kernel
theorem dX5_next_21 : decode cX5_next 21 = .ok (.istore_n 3, 1) := by decide +kernel
theorem dX5_next_22 : decode cX5_next 22 = .ok (.iload_n 3, 1) := by decide +kernel
theorem dX5_next_23 : decode cX5_next 23 = .ok (.sipush 400, 3) := by decide +kernel
theorem dX5_next_26 : decode cX5_next 26 = .ok (.if_icmp .gt 35, 3) := by decide +kernel
theorem dX5_next_29 : decode cX5_next 29 = .ok (.aload_n 2, 1) := by decide +kernel
theorem dX5_next_30 : decode cX5_next 30 = .ok (.aload_n 0, 1) := by decide +kernel
theorem dX5_next_31 : decode cX5_next 31 = .ok (.getfield 12, 3) := by decide +kernel
theorem dX5_next_34 : decode cX5_next 34 = .ok (.getfield 146, 3) := by decide +kernel
theorem dX5_next_37 : decode cX5_next 37 = .ok (.iload_n 3, 1) := by decide +kernel
theorem dX5_next_38 : decode cX5_next 38 = .ok (.iadd, 1) := by decide +kernel
theorem dX5_next_39 : decode cX5_next 39 = .ok (.invokevirtual 102, 3) := by decide +kernel
theorem dX5_next_42 : decode cX5_next 42 = .ok (.ifCond .eq 13, 3) := by decide +kernel
theorem dX5_next_45 : decode cX5_next 45 = .ok (.aload_n 0, 1) := by decide +kernel
theorem dX5_next_46 : decode cX5_next 46 = .ok (.getfield 12, 3) := by decide +kernel
theorem dX5_next_49 : decode cX5_next 49 = .ok (.getfield 146, 3) := by decide +kernel
theorem dX5_next_52 : decode cX5_next 52 = .ok (.iload_n 3, 1) := by decide +kernel
theorem dX5_next_53 : decode cX5_next 53 = .ok (.iadd, 1) := by decide +kernel
theorem dX5_next_54 : decode cX5_next 54 = .ok (.ireturn, 1) := by decide +kernel
theorem dX5_next_55 : decode cX5_next 55 = .ok (.iinc 3 1, 3) := by decide +kernel
theorem dX5_next_58 : decode cX5_next 58 = .ok (.goto (-36), 3) := by decide +kernel
theorem dX5_next_61 : decode cX5_next 61 = .ok (.aload_n 0, 1) := by decide +kernel
theorem dX5_next_62 : decode cX5_next 62 = .ok (.ldc 187, 2) := by decide +kernel
theorem dX5_next_64 : decode cX5_next 64 = .ok (.invokevirtual 59, 3) := by decide +kernel
theorem dX5_next_67 : decode cX5_next 67 = .ok (.ireturn, 1) := by decide +kernel
theorem dX5_agree_0 : decode cX5_agree 0 = .ok (.aload_n 0, 1) := by decide +kernel
theorem dX5_agree_1 : decode cX5_agree 1 = .ok (.getfield 12, 3) := by decide +kernel
theorem dX5_agree_4 : decode cX5_agree 4 = .ok (.iload_n 1, 1) := by decide +kernel
theorem dX5_agree_5 : decode cX5_agree 5 = .ok (.iload_n 2, 1) := by decide +kernel
theorem dX5_agree_6 : decode cX5_agree 6 = .ok (.invokevirtual 188, 3) := by decide +kernel
theorem dX5_agree_9 : decode cX5_agree 9 = .ok (.ifCond .eq 14, 3) := by decide +kernel
theorem dX5_agree_12 : decode cX5_agree 12 = .ok (.iload_n 3, 1) := by decide +kernel
theorem dX5_agree_13 : decode cX5_agree 13 = .ok (.iconst 1, 1) := by decide +kernel
theorem dX5_agree_14 : decode cX5_agree 14 = .ok (.sipush 400, 3) := by decide +kernel
theorem dX5_agree_17 : decode cX5_agree 17 = .ok (.invokestatic 92, 3) := by decide +kernel
theorem dX5_agree_20 : decode cX5_agree 20 = .ok (.ifCond .ne 10, 3) := by decide +kernel
theorem dX5_agree_23 : decode cX5_agree 23 = .ok (.aload_n 0, 1) := by decide +kernel
theorem dX5_agree_24 : decode cX5_agree 24 = .ok (.ldc 58, 2) := by decide +kernel
theorem dX5_agree_26 : decode cX5_agree 26 = .ok (.invokevirtual 59, 3) := by decide +kernel
theorem dX5_agree_29 : decode cX5_agree 29 = .ok (.ireturn, 1) := by decide +kernel
theorem dX5_agree_30 : decode cX5_agree 30 = .ok (.aload_n 0, 1) := by decide +kernel
theorem dX5_agree_31 : decode cX5_agree 31 = .ok (.iload_n 3, 1) := by decide +kernel
theorem dX5_agree_32 : decode cX5_agree 32 = .ok (.invokevirtual 176, 3) := by decide +kernel
theorem dX5_agree_35 : decode cX5_agree 35 = .ok (.iconst 0, 1) := by decide +kernel
theorem dX5_agree_36 : decode cX5_agree 36 = .ok (.istore 4, 2) := by decide +kernel
theorem dX5_agree_38 : decode cX5_agree 38 = .ok (.iconst 0, 1) := by decide +kernel
theorem dX5_agree_39 : decode cX5_agree 39 = .ok (.istore 5, 2) := by decide +kernel
theorem dX5_agree_41 : decode cX5_agree 41 = .ok (.iload 5, 2) := by decide +kernel
theorem dX5_agree_43 : decode cX5_agree 43 = .ok (.iload_n 3, 1) := by decide +kernel
theorem dX5_agree_44 : decode cX5_agree 44 = .ok (.if_icmp .ge 23, 3) := by decide +kernel
theorem dX5_agree_47 : decode cX5_agree 47 = .ok (.aload_n 0, 1) := by decide +kernel
theorem dX5_agree_48 : decode cX5_agree 48 = .ok (.iload_n 1, 1) := by decide +kernel
theorem dX5_agree_49 : decode cX5_agree 49 = .ok (.iload_n 2, 1) := by decide +kernel
theorem dX5_agree_50 : decode cX5_agree 50 = .ok (.iload 5, 2) := by decide +kernel
theorem dX5_agree_52 : decode cX5_agree 52 = .ok (.invokevirtual 191, 3) := by decide +kernel
theorem dX5_agree_55 : decode cX5_agree 55 = .ok (.ifCond .eq 6, 3) := by decide +kernel
theorem dX5_agree_58 : decode cX5_agree 58 = .ok (.iinc 4 1, 3) := by decide +kernel
theorem dX5_agree_61 : decode cX5_agree 61 = .ok (.iinc 5 1, 3) := by decide +kernel
theorem dX5_agree_64 : decode cX5_agree 64 = .ok (.goto (-23), 3) := by decide +kernel
theorem dX5_agree_67 : decode cX5_agree 67 = .ok (.iload 4, 2) := by decide +kernel
theorem dX5_agree_69 : decode cX5_agree 69 = .ok (.ireturn, 1) := by decide +kernel
theorem dX5_row_0 : decode cX5_row 0 = .ok (.aload_n 0, 1) := by decide +kernel
theorem dX5_row_1 : decode cX5_row 1 = .ok (.getfield 12, 3) := by decide +kernel
theorem dX5_row_4 : decode cX5_row 4 = .ok (.iload_n 1, 1) := by decide +kernel
theorem dX5_row_5 : decode cX5_row 5 = .ok (.iload_n 2, 1) := by decide +kernel
theorem dX5_row_6 : decode cX5_row 6 = .ok (.invokevirtual 188, 3) := by decide +kernel
theorem dX5_row_9 : decode cX5_row 9 = .ok (.ifCond .eq 14, 3) := by decide +kernel
theorem dX5_row_12 : decode cX5_row 12 = .ok (.iload_n 3, 1) := by decide +kernel
theorem dX5_row_13 : decode cX5_row 13 = .ok (.iconst 1, 1) := by decide +kernel
theorem dX5_row_14 : decode cX5_row 14 = .ok (.sipush 400, 3) := by decide +kernel
theorem dX5_row_17 : decode cX5_row 17 = .ok (.invokestatic 92, 3) := by decide +kernel
theorem dX5_row_20 : decode cX5_row 20 = .ok (.ifCond .ne 10, 3) := by decide +kernel
theorem dX5_row_23 : decode cX5_row 23 = .ok (.aload_n 0, 1) := by decide +kernel
theorem dX5_row_24 : decode cX5_row 24 = .ok (.ldc 58, 2) := by decide +kernel
theorem dX5_row_26 : decode cX5_row 26 = .ok (.invokevirtual 59, 3) := by decide +kernel
theorem dX5_row_29 : decode cX5_row 29 = .ok (.ireturn, 1) := by decide +kernel
theorem dX5_row_30 : decode cX5_row 30 = .ok (.aload_n 0, 1) := by decide +kernel
theorem dX5_row_31 : decode cX5_row 31 = .ok (.iload_n 3, 1) := by decide +kernel
theorem dX5_row_32 : decode cX5_row 32 = .ok (.invokevirtual 176, 3) := by decide +kernel
theorem dX5_row_35 : decode cX5_row 35 = .ok (.iconst 0, 1) := by decide +kernel
theorem dX5_row_36 : decode cX5_row 36 = .ok (.istore 4, 2) := by decide +kernel
theorem dX5_row_38 : decode cX5_row 38 = .ok (.iconst 0, 1) := by decide +kernel
theorem dX5_row_39 : decode cX5_row 39 = .ok (.istore 5, 2) := by decide +kernel
theorem dX5_row_41 : decode cX5_row 41 = .ok (.iconst 0, 1) := by decide +kernel
theorem dX5_row_42 : decode cX5_row 42 = .ok (.istore 6, 2) := by decide +kernel
theorem dX5_row_44 : decode cX5_row 44 = .ok (.iload 6, 2) := by decide +kernel
theorem dX5_row_46 : decode cX5_row 46 = .ok (.iload_n 3, 1) := by decide +kernel
theorem dX5_row_47 : decode cX5_row 47 = .ok (.if_icmp .ge 39, 3) := by decide +kernel
theorem dX5_row_50 : decode cX5_row 50 = .ok (.aload_n 0, 1) := by decide +kernel
theorem dX5_row_51 : decode cX5_row 51 = .ok (.iload_n 1, 1) := by decide +kernel
theorem dX5_row_52 : decode cX5_row 52 = .ok (.iload_n 2, 1) := by decide +kernel
theorem dX5_row_53 : decode cX5_row 53 = .ok (.iload 6, 2) := by decide +kernel
theorem dX5_row_55 : decode cX5_row 55 = .ok (.invokevirtual 191, 3) := by decide +kernel
theorem dX5_row_58 : decode cX5_row 58 = .ok (.ifCond .eq 10, 3) := by decide +kernel
theorem dX5_row_61 : decode cX5_row 61 = .ok (.iload 5, 2) := by decide +kernel
theorem dX5_row_63 : decode cX5_row 63 = .ok (.iconst 1, 1) := by decide +kernel
theorem dX5_row_64 : decode cX5_row 64 = .ok (.iadd, 1) := by decide +kernel
theorem dX5_row_65 : decode cX5_row 65 = .ok (.goto 4, 3) := by decide +kernel
theorem dX5_row_68 : decode cX5_row 68 = .ok (.iconst 0, 1) := by decide +kernel
theorem dX5_row_69 : decode cX5_row 69 = .ok (.istore 5, 2) := by decide +kernel
theorem dX5_row_71 : decode cX5_row 71 = .ok (.iload 4, 2) := by decide +kernel
theorem dX5_row_73 : decode cX5_row 73 = .ok (.iload 5, 2) := by decide +kernel
theorem dX5_row_75 : decode cX5_row 75 = .ok (.invokestatic 194, 3) := by decide +kernel
theorem dX5_row_78 : decode cX5_row 78 = .ok (.istore 4, 2) := by decide +kernel
theorem dX5_row_80 : decode cX5_row 80 = .ok (.iinc 6 1, 3) := by decide +kernel
theorem dX5_row_83 : decode cX5_row 83 = .ok (.goto (-39), 3) := by decide +kernel
theorem dX5_row_86 : decode cX5_row 86 = .ok (.iload 4, 2) := by decide +kernel
theorem dX5_row_88 : decode cX5_row 88 = .ok (.ireturn, 1) := by decide +kernel
theorem dX5_meet_0 : decode cX5_meet 0 = .ok (.iload_n 1, 1) := by decide +kernel
theorem dX5_meet_1 : decode cX5_meet 1 = .ok (.iconst 1, 1) := by decide +kernel
theorem dX5_meet_2 : decode cX5_meet 2 = .ok (.iconst 1, 1) := by decide +kernel
theorem dX5_meet_3 : decode cX5_meet 3 = .ok (.aload_n 0, 1) := by decide +kernel
theorem dX5_meet_4 : decode cX5_meet 4 = .ok (.getfield 12, 3) := by decide +kernel
theorem dX5_meet_7 : decode cX5_meet 7 = .ok (.getfield 63, 3) := by decide +kernel
theorem dX5_meet_10 : decode cX5_meet 10 = .ok (.ishl, 1) := by decide +kernel
theorem dX5_meet_11 : decode cX5_meet 11 = .ok (.iconst 1, 1) := by decide +kernel
theorem dX5_meet_12 : decode cX5_meet 12 = .ok (.isub, 1) := by decide +kernel
theorem dX5_meet_13 : decode cX5_meet 13 = .ok (.invokestatic 92, 3) := by decide +kernel
theorem dX5_meet_16 : decode cX5_meet 16 = .ok (.ifCond .ne 10, 3) := by decide +kernel
theorem dX5_meet_19 : decode cX5_meet 19 = .ok (.aload_n 0, 1) := by decide +kernel
theorem dX5_meet_20 : decode cX5_meet 20 = .ok (.ldc 58, 2) := by decide +kernel
theorem dX5_meet_22 : decode cX5_meet 22 = .ok (.invokevirtual 59, 3) := by decide +kernel
theorem dX5_meet_25 : decode cX5_meet 25 = .ok (.ireturn, 1) := by decide +kernel
theorem dX5_meet_26 : decode cX5_meet 26 = .ok (.iconst 0, 1) := by decide +kernel
theorem dX5_meet_27 : decode cX5_meet 27 = .ok (.istore_n 2, 1) := by decide +kernel
theorem dX5_meet_28 : decode cX5_meet 28 = .ok (.iload_n 2, 1) := by decide +kernel
theorem dX5_meet_29 : decode cX5_meet 29 = .ok (.sipush 2000, 3) := by decide +kernel
theorem dX5_meet_32 : decode cX5_meet 32 = .ok (.if_icmp .gt 39, 3) := by decide +kernel
theorem dX5_meet_35 : decode cX5_meet 35 = .ok (.aload_n 0, 1) := by decide +kernel
theorem dX5_meet_36 : decode cX5_meet 36 = .ok (.getfield 12, 3) := by decide +kernel
theorem dX5_meet_39 : decode cX5_meet 39 = .ok (.aload_n 0, 1) := by decide +kernel
theorem dX5_meet_40 : decode cX5_meet 40 = .ok (.getfield 12, 3) := by decide +kernel
theorem dX5_meet_43 : decode cX5_meet 43 = .ok (.getfield 146, 3) := by decide +kernel
theorem dX5_meet_46 : decode cX5_meet 46 = .ok (.iload_n 2, 1) := by decide +kernel
theorem dX5_meet_47 : decode cX5_meet 47 = .ok (.iadd, 1) := by decide +kernel
theorem dX5_meet_48 : decode cX5_meet 48 = .ok (.invokevirtual 199, 3) := by decide +kernel
theorem dX5_meet_51 : decode cX5_meet 51 = .ok (.iload_n 1, 1) := by decide +kernel
theorem dX5_meet_52 : decode cX5_meet 52 = .ok (.if_icmp .ne 13, 3) := by decide +kernel
theorem dX5_meet_55 : decode cX5_meet 55 = .ok (.aload_n 0, 1) := by decide +kernel
theorem dX5_meet_56 : decode cX5_meet 56 = .ok (.getfield 12, 3) := by decide +kernel
theorem dX5_meet_59 : decode cX5_meet 59 = .ok (.getfield 146, 3) := by decide +kernel
theorem dX5_meet_62 : decode cX5_meet 62 = .ok (.iload_n 2, 1) := by decide +kernel
theorem dX5_meet_63 : decode cX5_meet 63 = .ok (.iadd, 1) := by decide +kernel
theorem dX5_meet_64 : decode cX5_meet 64 = .ok (.ireturn, 1) := by decide +kernel
theorem dX5_meet_65 : decode cX5_meet 65 = .ok (.iinc 2 1, 3) := by decide +kernel
theorem dX5_meet_68 : decode cX5_meet 68 = .ok (.goto (-40), 3) := by decide +kernel
theorem dX5_meet_71 : decode cX5_meet 71 = .ok (.aload_n 0, 1) := by decide +kernel
theorem dX5_meet_72 : decode cX5_meet 72 = .ok (.ldc 187, 2) := by decide +kernel
theorem dX5_meet_74 : decode cX5_meet 74 = .ok (.invokevirtual 59, 3) := by decide +kernel
theorem dX5_meet_77 : decode cX5_meet 77 = .ok (.ireturn, 1) := by decide +kernel
theorem dX5_both_0 : decode cX5_both 0 = .ok (.aload_n 0, 1) := by decide +kernel
theorem dX5_both_1 : decode cX5_both 1 = .ok (.getfield 12, 3) := by decide +kernel
theorem dX5_both_4 : decode cX5_both 4 = .ok (.iload_n 1, 1) := by decide +kernel
theorem dX5_both_5 : decode cX5_both 5 = .ok (.invokevirtual 72, 3) := by decide +kernel
theorem dX5_both_8 : decode cX5_both 8 = .ok (.astore 5, 2) := by decide +kernel
theorem dX5_both_10 : decode cX5_both 10 = .ok (.aload_n 0, 1) := by decide +kernel
theorem dX5_both_11 : decode cX5_both 11 = .ok (.getfield 12, 3) := by decide +kernel
theorem dX5_both_14 : decode cX5_both 14 = .ok (.iload_n 3, 1) := by decide +kernel
theorem dX5_both_15 : decode cX5_both 15 = .ok (.invokevirtual 72, 3) := by decide +kernel
theorem dX5_both_18 : decode cX5_both 18 = .ok (.astore 6, 2) := by decide +kernel
theorem dX5_both_20 : decode cX5_both 20 = .ok (.aload 5, 2) := by decide +kernel
theorem dX5_both_22 : decode cX5_both 22 = .ok (.ifnull 13, 3) := by decide +kernel
theorem dX5_both_25 : decode cX5_both 25 = .ok (.aload 6, 2) := by decide +kernel
theorem dX5_both_27 : decode cX5_both 27 = .ok (.ifnull 8, 3) := by decide +kernel
theorem dX5_both_30 : decode cX5_both 30 = .ok (.iload_n 1, 1) := by decide +kernel
theorem dX5_both_31 : decode cX5_both 31 = .ok (.iload_n 3, 1) := by decide +kernel
theorem dX5_both_32 : decode cX5_both 32 = .ok (.if_icmp .ne 10, 3) := by decide +kernel
theorem dX5_both_35 : decode cX5_both 35 = .ok (.aload_n 0, 1) := by decide +kernel
theorem dX5_both_36 : decode cX5_both 36 = .ok (.ldc 58, 2) := by decide +kernel
theorem dX5_both_38 : decode cX5_both 38 = .ok (.invokevirtual 59, 3) := by decide +kernel
theorem dX5_both_41 : decode cX5_both 41 = .ok (.ireturn, 1) := by decide +kernel
theorem dX5_both_42 : decode cX5_both 42 = .ok (.iconst 2, 1) := by decide +kernel
theorem dX5_both_43 : decode cX5_both 43 = .ok (.iload_n 2, 1) := by decide +kernel
theorem dX5_both_44 : decode cX5_both 44 = .ok (.invokestatic 54, 3) := by decide +kernel
theorem dX5_both_47 : decode cX5_both 47 = .ok (.ifCond .eq 12, 3) := by decide +kernel
theorem dX5_both_50 : decode cX5_both 50 = .ok (.iconst 2, 1) := by decide +kernel
theorem dX5_both_51 : decode cX5_both 51 = .ok (.iload 4, 2) := by decide +kernel
theorem dX5_both_53 : decode cX5_both 53 = .ok (.invokestatic 54, 3) := by decide +kernel
theorem dX5_both_56 : decode cX5_both 56 = .ok (.ifCond .ne 10, 3) := by decide +kernel
theorem dX5_both_59 : decode cX5_both 59 = .ok (.aload_n 0, 1) := by decide +kernel
theorem dX5_both_60 : decode cX5_both 60 = .ok (.ldc 58, 2) := by decide +kernel
theorem dX5_both_62 : decode cX5_both 62 = .ok (.invokevirtual 59, 3) := by decide +kernel
theorem dX5_both_65 : decode cX5_both 65 = .ok (.ireturn, 1) := by decide +kernel
theorem dX5_both_66 : decode cX5_both 66 = .ok (.iconst 0, 1) := by decide +kernel
theorem dX5_both_67 : decode cX5_both 67 = .ok (.istore 7, 2) := by decide +kernel
theorem dX5_both_69 : decode cX5_both 69 = .ok (.iload 7, 2) := by decide +kernel
theorem dX5_both_71 : decode cX5_both 71 = .ok (.sipush 2000, 3) := by decide +kernel
theorem dX5_both_74 : decode cX5_both 74 = .ok (.if_icmp .gt 47, 3) := by decide +kernel
theorem dX5_both_77 : decode cX5_both 77 = .ok (.aload_n 0, 1) := by decide +kernel
theorem dX5_both_78 : decode cX5_both 78 = .ok (.getfield 12, 3) := by decide +kernel
theorem dX5_both_81 : decode cX5_both 81 = .ok (.getfield 146, 3) := by decide +kernel
theorem dX5_both_84 : decode cX5_both 84 = .ok (.iload 7, 2) := by decide +kernel
theorem dX5_both_86 : decode cX5_both 86 = .ok (.iadd, 1) := by decide +kernel
theorem dX5_both_87 : decode cX5_both 87 = .ok (.istore 8, 2) := by decide +kernel
theorem dX5_both_89 : decode cX5_both 89 = .ok (.aload 5, 2) := by decide +kernel
theorem dX5_both_91 : decode cX5_both 91 = .ok (.iload 8, 2) := by decide +kernel
theorem dX5_both_93 : decode cX5_both 93 = .ok (.invokevirtual 96, 3) := by decide +kernel
theorem dX5_both_96 : decode cX5_both 96 = .ok (.iload_n 2, 1) := by decide +kernel
theorem dX5_both_97 : decode cX5_both 97 = .ok (.if_icmp .ne 18, 3) := by decide +kernel
theorem dX5_both_100 : decode cX5_both 100 = .ok (.aload 6, 2) := by decide +kernel
theorem dX5_both_102 : decode cX5_both 102 = .ok (.iload 8, 2) := by decide +kernel
theorem dX5_both_104 : decode cX5_both 104 = .ok (.invokevirtual 96, 3) := by decide +kernel
theorem dX5_both_107 : decode cX5_both 107 = .ok (.iload 4, 2) := by decide +kernel
theorem dX5_both_109 : decode cX5_both 109 = .ok (.if_icmp .ne 6, 3) := by decide +kernel
theorem dX5_both_112 : decode cX5_both 112 = .ok (.iload 8, 2) := by decide +kernel
theorem dX5_both_114 : decode cX5_both 114 = .ok (.ireturn, 1) := by decide +kernel
theorem dX5_both_115 : decode cX5_both 115 = .ok (.iinc 7 1, 3) := by decide +kernel
theorem dX5_both_118 : decode cX5_both 118 = .ok (.goto (-49), 3) := by decide +kernel
theorem dX5_both_121 : decode cX5_both 121 = .ok (.aload_n 0, 1) := by decide +kernel
theorem dX5_both_122 : decode cX5_both 122 = .ok (.ldc 187, 2) := by decide +kernel
theorem dX5_both_124 : decode cX5_both 124 = .ok (.invokevirtual 59, 3) := by decide +kernel
theorem dX5_both_127 : decode cX5_both 127 = .ok (.ireturn, 1) := by decide +kernel
theorem dX5_trust_0 : decode cX5_trust 0 = .ok (.aload_n 0, 1) := by decide +kernel
theorem dX5_trust_1 : decode cX5_trust 1 = .ok (.getfield 12, 3) := by decide +kernel
theorem dX5_trust_4 : decode cX5_trust 4 = .ok (.iload_n 1, 1) := by decide +kernel
theorem dX5_trust_5 : decode cX5_trust 5 = .ok (.invokevirtual 124, 3) := by decide +kernel
theorem dX5_trust_8 : decode cX5_trust 8 = .ok (.astore_n 2, 1) := by decide +kernel
theorem dX5_trust_9 : decode cX5_trust 9 = .ok (.aload_n 2, 1) := by decide +kernel
theorem dX5_trust_10 : decode cX5_trust 10 = .ok (.ifnonnull 10, 3) := by decide +kernel
theorem dX5_trust_13 : decode cX5_trust 13 = .ok (.aload_n 0, 1) := by decide +kernel
theorem dX5_trust_14 : decode cX5_trust 14 = .ok (.ldc 58, 2) := by decide +kernel
theorem dX5_trust_16 : decode cX5_trust 16 = .ok (.invokevirtual 59, 3) := by decide +kernel
theorem dX5_trust_19 : decode cX5_trust 19 = .ok (.ireturn, 1) := by decide +kernel
theorem dX5_trust_20 : decode cX5_trust 20 = .ok (.aload_n 0, 1) := by decide +kernel
theorem dX5_trust_21 : decode cX5_trust 21 = .ok (.sipush 400, 3) := by decide +kernel
theorem dX5_trust_24 : decode cX5_trust 24 = .ok (.invokevirtual 176, 3) := by decide +kernel
theorem dX5_trust_27 : decode cX5_trust 27 = .ok (.iconst (-1), 1) := by decide +kernel
theorem dX5_trust_28 : decode cX5_trust 28 = .ok (.istore_n 3, 1) := by decide +kernel
theorem dX5_trust_29 : decode cX5_trust 29 = .ok (.sipush 401, 3) := by decide +kernel
theorem dX5_trust_32 : decode cX5_trust 32 = .ok (.istore 4, 2) := by decide +kernel
theorem dX5_trust_34 : decode cX5_trust 34 = .ok (.iconst 0, 1) := by decide +kernel
theorem dX5_trust_35 : decode cX5_trust 35 = .ok (.istore 5, 2) := by decide +kernel
theorem dX5_trust_37 : decode cX5_trust 37 = .ok (.iload 5, 2) := by decide +kernel
theorem dX5_trust_39 : decode cX5_trust 39 = .ok (.aload_n 0, 1) := by decide +kernel
theorem dX5_trust_40 : decode cX5_trust 40 = .ok (.getfield 12, 3) := by decide +kernel
theorem dX5_trust_43 : decode cX5_trust 43 = .ok (.getfield 63, 3) := by decide +kernel
theorem dX5_trust_46 : decode cX5_trust 46 = .ok (.if_icmp .ge 32, 3) := by decide +kernel
theorem dX5_trust_49 : decode cX5_trust 49 = .ok (.aload_n 0, 1) := by decide +kernel
theorem dX5_trust_50 : decode cX5_trust 50 = .ok (.aload_n 2, 1) := by decide +kernel
theorem dX5_trust_51 : decode cX5_trust 51 = .ok (.iload 5, 2) := by decide +kernel
theorem dX5_trust_53 : decode cX5_trust 53 = .ok (.invokevirtual 183, 3) := by decide +kernel
theorem dX5_trust_56 : decode cX5_trust 56 = .ok (.istore 6, 2) := by decide +kernel
theorem dX5_trust_58 : decode cX5_trust 58 = .ok (.iload 6, 2) := by decide +kernel
theorem dX5_trust_60 : decode cX5_trust 60 = .ok (.iload 4, 2) := by decide +kernel
theorem dX5_trust_62 : decode cX5_trust 62 = .ok (.if_icmp .ge 10, 3) := by decide +kernel
theorem dX5_trust_65 : decode cX5_trust 65 = .ok (.iload 6, 2) := by decide +kernel
theorem dX5_trust_67 : decode cX5_trust 67 = .ok (.istore 4, 2) := by decide +kernel
theorem dX5_trust_69 : decode cX5_trust 69 = .ok (.iload 5, 2) := by decide +kernel
theorem dX5_trust_71 : decode cX5_trust 71 = .ok (.istore_n 3, 1) := by decide +kernel
theorem dX5_trust_72 : decode cX5_trust 72 = .ok (.iinc 5 1, 3) := by decide +kernel
theorem dX5_trust_75 : decode cX5_trust 75 = .ok (.goto (-38), 3) := by decide +kernel
theorem dX5_trust_78 : decode cX5_trust 78 = .ok (.aload_n 0, 1) := by decide +kernel
theorem dX5_trust_79 : decode cX5_trust 79 = .ok (.aload_n 2, 1) := by decide +kernel
theorem dX5_trust_80 : decode cX5_trust 80 = .ok (.iconst (-1), 1) := by decide +kernel
theorem dX5_trust_81 : decode cX5_trust 81 = .ok (.invokevirtual 183, 3) := by decide +kernel
theorem dX5_trust_84 : decode cX5_trust 84 = .ok (.istore 5, 2) := by decide +kernel
theorem dX5_trust_86 : decode cX5_trust 86 = .ok (.iload 5, 2) := by decide +kernel
theorem dX5_trust_88 : decode cX5_trust 88 = .ok (.iload 4, 2) := by decide +kernel
theorem dX5_trust_90 : decode cX5_trust 90 = .ok (.if_icmp .ge 5, 3) := by decide +kernel
theorem dX5_trust_93 : decode cX5_trust 93 = .ok (.iconst (-1), 1) := by decide +kernel
theorem dX5_trust_94 : decode cX5_trust 94 = .ok (.ireturn, 1) := by decide +kernel
theorem dX5_trust_95 : decode cX5_trust 95 = .ok (.iload 4, 2) := by decide +kernel
theorem dX5_trust_97 : decode cX5_trust 97 = .ok (.sipush 401, 3) := by decide +kernel
theorem dX5_trust_100 : decode cX5_trust 100 = .ok (.if_icmp .ne 12, 3) := by decide +kernel
theorem dX5_trust_103 : decode cX5_trust 103 = .ok (.aload_n 0, 1) := by decide +kernel
theorem dX5_trust_104 : decode cX5_trust 104 = .ok (.ldc 187, 2) := by decide +kernel
theorem dX5_trust_106 : decode cX5_trust 106 = .ok (.invokevirtual 59, 3) := by decide +kernel
theorem dX5_trust_109 : decode cX5_trust 109 = .ok (.goto 4, 3) := by decide +kernel
theorem dX5_trust_112 : decode cX5_trust 112 = .ok (.iload_n 3, 1) := by decide +kernel
theorem dX5_trust_113 : decode cX5_trust 113 = .ok (.ireturn, 1) := by decide +kernel
theorem dX5_truth_0 : decode cX5_truth 0 = .ok (.iload_n 1, 1) := by decide +kernel
theorem dX5_truth_1 : decode cX5_truth 1 = .ok (.iconst 1, 1) := by decide +kernel
theorem dX5_truth_2 : decode cX5_truth 2 = .ok (.bipush 100, 2) := by decide +kernel
theorem dX5_truth_4 : decode cX5_truth 4 = .ok (.invokestatic 92, 3) := by decide +kernel
theorem dX5_truth_7 : decode cX5_truth 7 = .ok (.ifCond .ne 10, 3) := by decide +kernel
theorem dX5_truth_10 : decode cX5_truth 10 = .ok (.aload_n 0, 1) := by decide +kernel
theorem dX5_truth_11 : decode cX5_truth 11 = .ok (.ldc 58, 2) := by decide +kernel
theorem dX5_truth_13 : decode cX5_truth 13 = .ok (.invokevirtual 59, 3) := by decide +kernel
theorem dX5_truth_16 : decode cX5_truth 16 = .ok (.ireturn, 1) := by decide +kernel
theorem dX5_truth_17 : decode cX5_truth 17 = .ok (.aload_n 0, 1) := by decide +kernel
theorem dX5_truth_18 : decode cX5_truth 18 = .ok (.getfield 12, 3) := by decide +kernel
theorem dX5_truth_21 : decode cX5_truth 21 = .ok (.getfield 63, 3) := by decide +kernel
theorem dX5_truth_24 : decode cX5_truth 24 = .ok (.ifCond .ne 10, 3) := by decide +kernel
theorem dX5_truth_27 : decode cX5_truth 27 = .ok (.aload_n 0, 1) := by decide +kernel
theorem dX5_truth_28 : decode cX5_truth 28 = .ok (.ldc 187, 2) := by decide +kernel
theorem dX5_truth_30 : decode cX5_truth 30 = .ok (.invokevirtual 59, 3) := by decide +kernel
theorem dX5_truth_33 : decode cX5_truth 33 = .ok (.ireturn, 1) := by decide +kernel
theorem dX5_truth_34 : decode cX5_truth 34 = .ok (.aload_n 0, 1) := by decide +kernel
theorem dX5_truth_35 : decode cX5_truth 35 = .ok (.iload_n 1, 1) := by decide +kernel
theorem dX5_truth_36 : decode cX5_truth 36 = .ok (.invokevirtual 176, 3) := by decide +kernel
theorem dX5_truth_39 : decode cX5_truth 39 = .ok (.iconst 0, 1) := by decide +kernel
theorem dX5_truth_40 : decode cX5_truth 40 = .ok (.istore_n 2, 1) := by decide +kernel
theorem dX5_truth_41 : decode cX5_truth 41 = .ok (.aload_n 0, 1) := by decide +kernel
theorem dX5_truth_42 : decode cX5_truth 42 = .ok (.iload_n 1, 1) := by decide +kernel
theorem dX5_truth_43 : decode cX5_truth 43 = .ok (.iconst 0, 1) := by decide +kernel
theorem dX5_truth_44 : decode cX5_truth 44 = .ok (.invokevirtual 202, 3) := by decide +kernel
theorem dX5_truth_47 : decode cX5_truth 47 = .ok (.istore_n 3, 1) := by decide +kernel
theorem dX5_truth_48 : decode cX5_truth 48 = .ok (.iconst 1, 1) := by decide +kernel
theorem dX5_truth_49 : decode cX5_truth 49 = .ok (.istore 4, 2) := by decide +kernel
theorem dX5_truth_51 : decode cX5_truth 51 = .ok (.iload 4, 2) := by decide +kernel
theorem dX5_truth_53 : decode cX5_truth 53 = .ok (.aload_n 0, 1) := by decide +kernel
theorem dX5_truth_54 : decode cX5_truth 54 = .ok (.getfield 12, 3) := by decide +kernel
theorem dX5_truth_57 : decode cX5_truth 57 = .ok (.getfield 63, 3) := by decide +kernel
theorem dX5_truth_60 : decode cX5_truth 60 = .ok (.if_icmp .ge 30, 3) := by decide +kernel
theorem dX5_truth_63 : decode cX5_truth 63 = .ok (.aload_n 0, 1) := by decide +kernel
theorem dX5_truth_64 : decode cX5_truth 64 = .ok (.iload_n 1, 1) := by decide +kernel
theorem dX5_truth_65 : decode cX5_truth 65 = .ok (.iload 4, 2) := by decide +kernel
theorem dX5_truth_67 : decode cX5_truth 67 = .ok (.invokevirtual 202, 3) := by decide +kernel
theorem dX5_truth_70 : decode cX5_truth 70 = .ok (.istore 5, 2) := by decide +kernel
theorem dX5_truth_72 : decode cX5_truth 72 = .ok (.iload 5, 2) := by decide +kernel
theorem dX5_truth_74 : decode cX5_truth 74 = .ok (.iload_n 3, 1) := by decide +kernel
theorem dX5_truth_75 : decode cX5_truth 75 = .ok (.if_icmp .ge 9, 3) := by decide +kernel
theorem dX5_truth_78 : decode cX5_truth 78 = .ok (.iload 5, 2) := by decide +kernel
theorem dX5_truth_80 : decode cX5_truth 80 = .ok (.istore_n 3, 1) := by decide +kernel
theorem dX5_truth_81 : decode cX5_truth 81 = .ok (.iload 4, 2) := by decide +kernel
theorem dX5_truth_83 : decode cX5_truth 83 = .ok (.istore_n 2, 1) := by decide +kernel
theorem dX5_truth_84 : decode cX5_truth 84 = .ok (.iinc 4 1, 3) := by decide +kernel
theorem dX5_truth_87 : decode cX5_truth 87 = .ok (.goto (-36), 3) := by decide +kernel
theorem dX5_truth_90 : decode cX5_truth 90 = .ok (.iload_n 2, 1) := by decide +kernel
theorem dX5_truth_91 : decode cX5_truth 91 = .ok (.ireturn, 1) := by decide +kernel
theorem dX5_cure_0 : decode cX5_cure 0 = .ok (.aload_n 0, 1) := by decide +kernel
theorem dX5_cure_1 : decode cX5_cure 1 = .ok (.getfield 12, 3) := by decide +kernel
theorem dX5_cure_4 : decode cX5_cure 4 = .ok (.iload_n 1, 1) := by decide +kernel
theorem dX5_cure_5 : decode cX5_cure 5 = .ok (.invokevirtual 124, 3) := by decide +kernel
theorem dX5_cure_8 : decode cX5_cure 8 = .ok (.astore_n 2, 1) := by decide +kernel
theorem dX5_cure_9 : decode cX5_cure 9 = .ok (.aload_n 2, 1) := by decide +kernel
theorem dX5_cure_10 : decode cX5_cure 10 = .ok (.ifnonnull 10, 3) := by decide +kernel
theorem dX5_cure_13 : decode cX5_cure 13 = .ok (.aload_n 0, 1) := by decide +kernel
theorem dX5_cure_14 : decode cX5_cure 14 = .ok (.ldc 58, 2) := by decide +kernel
theorem dX5_cure_16 : decode cX5_cure 16 = .ok (.invokevirtual 59, 3) := by decide +kernel
theorem dX5_cure_19 : decode cX5_cure 19 = .ok (.ireturn, 1) := by decide +kernel
theorem dX5_cure_20 : decode cX5_cure 20 = .ok (.aload_n 2, 1) := by decide +kernel
theorem dX5_cure_21 : decode cX5_cure 21 = .ok (.getfield 128, 3) := by decide +kernel
theorem dX5_cure_24 : decode cX5_cure 24 = .ok (.ifCond .ne 10, 3) := by decide +kernel
theorem dX5_cure_27 : decode cX5_cure 27 = .ok (.aload_n 0, 1) := by decide +kernel
theorem dX5_cure_28 : decode cX5_cure 28 = .ok (.ldc 141, 2) := by decide +kernel
theorem dX5_cure_30 : decode cX5_cure 30 = .ok (.invokevirtual 59, 3) := by decide +kernel
theorem dX5_cure_33 : decode cX5_cure 33 = .ok (.ireturn, 1) := by decide +kernel
theorem dX5_cure_34 : decode cX5_cure 34 = .ok (.aload_n 0, 1) := by decide +kernel
theorem dX5_cure_35 : decode cX5_cure 35 = .ok (.getfield 42, 3) := by decide +kernel
theorem dX5_cure_38 : decode cX5_cure 38 = .ok (.aload_n 2, 1) := by decide +kernel
theorem dX5_cure_39 : decode cX5_cure 39 = .ok (.invokevirtual 205, 3) := by decide +kernel
theorem dX5_cure_42 : decode cX5_cure 42 = .ok (.iconst 0, 1) := by decide +kernel
theorem dX5_cure_43 : decode cX5_cure 43 = .ok (.istore_n 3, 1) := by decide +kernel
theorem dX5_cure_44 : decode cX5_cure 44 = .ok (.iload_n 3, 1) := by decide +kernel
theorem dX5_cure_45 : decode cX5_cure 45 = .ok (.sipush 2000, 3) := by decide +kernel
theorem dX5_cure_48 : decode cX5_cure 48 = .ok (.if_icmp .gt 67, 3) := by decide +kernel
theorem dX5_cure_51 : decode cX5_cure 51 = .ok (.aload_n 0, 1) := by decide +kernel
theorem dX5_cure_52 : decode cX5_cure 52 = .ok (.getfield 12, 3) := by decide +kernel
theorem dX5_cure_55 : decode cX5_cure 55 = .ok (.getfield 146, 3) := by decide +kernel
theorem dX5_cure_58 : decode cX5_cure 58 = .ok (.iload_n 3, 1) := by decide +kernel
theorem dX5_cure_59 : decode cX5_cure 59 = .ok (.iadd, 1) := by decide +kernel
theorem dX5_cure_60 : decode cX5_cure 60 = .ok (.istore 4, 2) := by decide +kernel
theorem dX5_cure_62 : decode cX5_cure 62 = .ok (.aload_n 0, 1) := by decide +kernel
theorem dX5_cure_63 : decode cX5_cure 63 = .ok (.getfield 12, 3) := by decide +kernel
theorem dX5_cure_66 : decode cX5_cure 66 = .ok (.aload_n 0, 1) := by decide +kernel
theorem dX5_cure_67 : decode cX5_cure 67 = .ok (.getfield 12, 3) := by decide +kernel
theorem dX5_cure_70 : decode cX5_cure 70 = .ok (.getfield 111, 3) := by decide +kernel
theorem dX5_cure_73 : decode cX5_cure 73 = .ok (.iload 4, 2) := by decide +kernel
theorem dX5_cure_75 : decode cX5_cure 75 = .ok (.invokevirtual 149, 3) := by decide +kernel
theorem dX5_cure_78 : decode cX5_cure 78 = .ok (.ifCond .eq 18, 3) := by decide +kernel
theorem dX5_cure_81 : decode cX5_cure 81 = .ok (.aload_n 0, 1) := by decide +kernel
theorem dX5_cure_82 : decode cX5_cure 82 = .ok (.getfield 42, 3) := by decide +kernel
theorem dX5_cure_85 : decode cX5_cure 85 = .ok (.iconst 1, 1) := by decide +kernel
theorem dX5_cure_86 : decode cX5_cure 86 = .ok (.aload_n 0, 1) := by decide +kernel
theorem dX5_cure_87 : decode cX5_cure 87 = .ok (.getfield 12, 3) := by decide +kernel
theorem dX5_cure_90 : decode cX5_cure 90 = .ok (.getfield 108, 3) := by decide +kernel
theorem dX5_cure_93 : decode cX5_cure 93 = .ok (.invokevirtual 152, 3) := by decide +kernel
theorem dX5_cure_96 : decode cX5_cure 96 = .ok (.aload_n 0, 1) := by decide +kernel
theorem dX5_cure_97 : decode cX5_cure 97 = .ok (.getfield 42, 3) := by decide +kernel
theorem dX5_cure_100 : decode cX5_cure 100 = .ok (.getfield 128, 3) := by decide +kernel
theorem dX5_cure_103 : decode cX5_cure 103 = .ok (.ifCond .ne 6, 3) := by decide +kernel
theorem dX5_cure_106 : decode cX5_cure 106 = .ok (.iload 4, 2) := by decide +kernel
theorem dX5_cure_108 : decode cX5_cure 108 = .ok (.ireturn, 1) := by decide +kernel
theorem dX5_cure_109 : decode cX5_cure 109 = .ok (.iinc 3 1, 3) := by decide +kernel
theorem dX5_cure_112 : decode cX5_cure 112 = .ok (.goto (-68), 3) := by decide +kernel
theorem dX5_cure_115 : decode cX5_cure 115 = .ok (.aload_n 0, 1) := by decide +kernel
theorem dX5_cure_116 : decode cX5_cure 116 = .ok (.ldc 187, 2) := by decide +kernel
theorem dX5_cure_118 : decode cX5_cure 118 = .ok (.invokevirtual 59, 3) := by decide +kernel
theorem dX5_cure_121 : decode cX5_cure 121 = .ok (.ireturn, 1) := by decide +kernel
theorem dX5_kind_0 : decode cX5_kind 0 = .ok (.aload_n 0, 1) := by decide +kernel
theorem dX5_kind_1 : decode cX5_kind 1 = .ok (.iload_n 1, 1) := by decide +kernel
theorem dX5_kind_2 : decode cX5_kind 2 = .ok (.iconst 0, 1) := by decide +kernel
theorem dX5_kind_3 : decode cX5_kind 3 = .ok (.iload_n 2, 1) := by decide +kernel
theorem dX5_kind_4 : decode cX5_kind 4 = .ok (.sipush 400, 3) := by decide +kernel
theorem dX5_kind_7 : decode cX5_kind 7 = .ok (.invokevirtual 209, 3) := by decide +kernel
theorem dX5_kind_10 : decode cX5_kind 10 = .ok (.ireturn, 1) := by decide +kernel
theorem dX5_begin_0 : decode cX5_begin 0 = .ok (.aload_n 0, 1) := by decide +kernel
theorem dX5_begin_1 : decode cX5_begin 1 = .ok (.iload_n 1, 1) := by decide +kernel
theorem dX5_begin_2 : decode cX5_begin 2 = .ok (.iconst 1, 1) := by decide +kernel
theorem dX5_begin_3 : decode cX5_begin 3 = .ok (.iload_n 2, 1) := by decide +kernel
theorem dX5_begin_4 : decode cX5_begin 4 = .ok (.bipush 100, 2) := by decide +kernel
theorem dX5_begin_6 : decode cX5_begin 6 = .ok (.invokevirtual 209, 3) := by decide +kernel
theorem dX5_begin_9 : decode cX5_begin 9 = .ok (.ireturn, 1) := by decide +kernel
theorem dX5_power_0 : decode cX5_power 0 = .ok (.iload_n 1, 1) := by decide +kernel
theorem dX5_power_1 : decode cX5_power 1 = .ok (.iconst 1, 1) := by decide +kernel
theorem dX5_power_2 : decode cX5_power 2 = .ok (.bipush 100, 2) := by decide +kernel
theorem dX5_power_4 : decode cX5_power 4 = .ok (.invokestatic 92, 3) := by decide +kernel
theorem dX5_power_7 : decode cX5_power 7 = .ok (.ifCond .ne 10, 3) := by decide +kernel
theorem dX5_power_10 : decode cX5_power 10 = .ok (.aload_n 0, 1) := by decide +kernel
theorem dX5_power_11 : decode cX5_power 11 = .ok (.ldc 58, 2) := by decide +kernel
theorem dX5_power_13 : decode cX5_power 13 = .ok (.invokevirtual 59, 3) := by decide +kernel
theorem dX5_power_16 : decode cX5_power 16 = .ok (.ireturn, 1) := by decide +kernel
theorem dX5_power_17 : decode cX5_power 17 = .ok (.aload_n 0, 1) := by decide +kernel
theorem dX5_power_18 : decode cX5_power 18 = .ok (.iload_n 1, 1) := by decide +kernel
theorem dX5_power_19 : decode cX5_power 19 = .ok (.invokevirtual 176, 3) := by decide +kernel
theorem dX5_power_22 : decode cX5_power 22 = .ok (.iconst 1, 1) := by decide +kernel
theorem dX5_power_23 : decode cX5_power 23 = .ok (.istore_n 2, 1) := by decide +kernel
theorem dX5_power_24 : decode cX5_power 24 = .ok (.iconst (-1), 1) := by decide +kernel
theorem dX5_power_25 : decode cX5_power 25 = .ok (.istore_n 3, 1) := by decide +kernel
theorem dX5_power_26 : decode cX5_power 26 = .ok (.iconst 1, 1) := by decide +kernel
theorem dX5_power_27 : decode cX5_power 27 = .ok (.istore 4, 2) := by decide +kernel
theorem dX5_power_29 : decode cX5_power 29 = .ok (.iload 4, 2) := by decide +kernel
theorem dX5_power_31 : decode cX5_power 31 = .ok (.bipush 50, 2) := by decide +kernel
theorem dX5_power_33 : decode cX5_power 33 = .ok (.if_icmp .gt 30, 3) := by decide +kernel
theorem dX5_power_36 : decode cX5_power 36 = .ok (.aload_n 0, 1) := by decide +kernel
theorem dX5_power_37 : decode cX5_power 37 = .ok (.iload_n 1, 1) := by decide +kernel
theorem dX5_power_38 : decode cX5_power 38 = .ok (.iload 4, 2) := by decide +kernel
theorem dX5_power_40 : decode cX5_power 40 = .ok (.invokevirtual 213, 3) := by decide +kernel
theorem dX5_power_43 : decode cX5_power 43 = .ok (.istore 5, 2) := by decide +kernel
theorem dX5_power_45 : decode cX5_power 45 = .ok (.iload 5, 2) := by decide +kernel
theorem dX5_power_47 : decode cX5_power 47 = .ok (.iload_n 3, 1) := by decide +kernel
theorem dX5_power_48 : decode cX5_power 48 = .ok (.if_icmp .le 9, 3) := by decide +kernel
theorem dX5_power_51 : decode cX5_power 51 = .ok (.iload 5, 2) := by decide +kernel
theorem dX5_power_53 : decode cX5_power 53 = .ok (.istore_n 3, 1) := by decide +kernel
theorem dX5_power_54 : decode cX5_power 54 = .ok (.iload 4, 2) := by decide +kernel
theorem dX5_power_56 : decode cX5_power 56 = .ok (.istore_n 2, 1) := by decide +kernel
theorem dX5_power_57 : decode cX5_power 57 = .ok (.iinc 4 1, 3) := by decide +kernel
theorem dX5_power_60 : decode cX5_power 60 = .ok (.goto (-31), 3) := by decide +kernel
theorem dX5_power_63 : decode cX5_power 63 = .ok (.iload_n 2, 1) := by decide +kernel
theorem dX5_power_64 : decode cX5_power 64 = .ok (.ireturn, 1) := by decide +kernel
theorem dX5_feed_0 : decode cX5_feed 0 = .ok (.iload_n 2, 1) := by decide +kernel
theorem dX5_feed_1 : decode cX5_feed 1 = .ok (.iconst 1, 1) := by decide +kernel
theorem dX5_feed_2 : decode cX5_feed 2 = .ok (.iconst 4, 1) := by decide +kernel
theorem dX5_feed_3 : decode cX5_feed 3 = .ok (.invokestatic 92, 3) := by decide +kernel
theorem dX5_feed_6 : decode cX5_feed 6 = .ok (.ifCond .ne 10, 3) := by decide +kernel
theorem dX5_feed_9 : decode cX5_feed 9 = .ok (.aload_n 0, 1) := by decide +kernel
theorem dX5_feed_10 : decode cX5_feed 10 = .ok (.ldc 58, 2) := by decide +kernel
theorem dX5_feed_12 : decode cX5_feed 12 = .ok (.invokevirtual 59, 3) := by decide +kernel
theorem dX5_feed_15 : decode cX5_feed 15 = .ok (.ireturn, 1) := by decide +kernel
theorem dX5_feed_16 : decode cX5_feed 16 = .ok (.aload_n 0, 1) := by decide +kernel
theorem dX5_feed_17 : decode cX5_feed 17 = .ok (.getfield 22, 3) := by decide +kernel
theorem dX5_feed_20 : decode cX5_feed 20 = .ok (.getfield 216, 3) := by decide +kernel
theorem dX5_feed_23 : decode cX5_feed 23 = .ok (.bipush 120, 2) := by decide +kernel
theorem dX5_feed_25 : decode cX5_feed 25 = .ok (.iload_n 2, 1) := by decide +kernel
theorem dX5_feed_26 : decode cX5_feed 26 = .ok (.isub, 1) := by decide +kernel
theorem dX5_feed_27 : decode cX5_feed 27 = .ok (.if_icmp .le 10, 3) := by decide +kernel
theorem dX5_feed_30 : decode cX5_feed 30 = .ok (.aload_n 0, 1) := by decide +kernel
theorem dX5_feed_31 : decode cX5_feed 31 = .ok (.ldc 67, 2) := by decide +kernel
theorem dX5_feed_33 : decode cX5_feed 33 = .ok (.invokevirtual 59, 3) := by decide +kernel
theorem dX5_feed_36 : decode cX5_feed 36 = .ok (.ireturn, 1) := by decide +kernel
theorem dX5_feed_37 : decode cX5_feed 37 = .ok (.iload_n 2, 1) := by decide +kernel
theorem dX5_feed_38 : decode cX5_feed 38 = .ok (.iconst 1, 1) := by decide +kernel
theorem dX5_feed_39 : decode cX5_feed 39 = .ok (.isub, 1) := by decide +kernel
theorem dX5_feed_40 : decode cX5_feed 40 = .ok (.istore_n 3, 1) := by decide +kernel
theorem dX5_feed_41 : decode cX5_feed 41 = .ok (.iload_n 3, 1) := by decide +kernel
theorem dX5_feed_42 : decode cX5_feed 42 = .ok (.ifCond .lt 23, 3) := by decide +kernel
theorem dX5_feed_45 : decode cX5_feed 45 = .ok (.aload_n 0, 1) := by decide +kernel
theorem dX5_feed_46 : decode cX5_feed 46 = .ok (.getfield 22, 3) := by decide +kernel
theorem dX5_feed_49 : decode cX5_feed 49 = .ok (.iload_n 1, 1) := by decide +kernel
theorem dX5_feed_50 : decode cX5_feed 50 = .ok (.bipush 8, 2) := by decide +kernel
theorem dX5_feed_52 : decode cX5_feed 52 = .ok (.iload_n 3, 1) := by decide +kernel
theorem dX5_feed_53 : decode cX5_feed 53 = .ok (.imul, 1) := by decide +kernel
theorem dX5_feed_54 : decode cX5_feed 54 = .ok (.ishr, 1) := by decide +kernel
theorem dX5_feed_55 : decode cX5_feed 55 = .ok (.i2b, 1) := by decide +kernel
theorem dX5_feed_56 : decode cX5_feed 56 = .ok (.invokevirtual 219, 3) := by decide +kernel
theorem dX5_feed_59 : decode cX5_feed 59 = .ok (.iinc 3 (-1), 3) := by decide +kernel
theorem dX5_feed_62 : decode cX5_feed 62 = .ok (.goto (-21), 3) := by decide +kernel
theorem dX5_feed_65 : decode cX5_feed 65 = .ok (.aload_n 0, 1) := by decide +kernel
theorem dX5_feed_66 : decode cX5_feed 66 = .ok (.getfield 22, 3) := by decide +kernel
theorem dX5_feed_69 : decode cX5_feed 69 = .ok (.getfield 216, 3) := by decide +kernel
theorem dX5_feed_72 : decode cX5_feed 72 = .ok (.ireturn, 1) := by decide +kernel
theorem dX5_wipe_0 : decode cX5_wipe 0 = .ok (.aload_n 0, 1) := by decide +kernel
theorem dX5_wipe_1 : decode cX5_wipe 1 = .ok (.getfield 22, 3) := by decide +kernel
theorem dX5_wipe_4 : decode cX5_wipe 4 = .ok (.getfield 216, 3) := by decide +kernel
theorem dX5_wipe_7 : decode cX5_wipe 7 = .ok (.istore_n 1, 1) := by decide +kernel
theorem dX5_wipe_8 : decode cX5_wipe 8 = .ok (.aload_n 0, 1) := by decide +kernel
theorem dX5_wipe_9 : decode cX5_wipe 9 = .ok (.getfield 22, 3) := by decide +kernel
theorem dX5_wipe_12 : decode cX5_wipe 12 = .ok (.iconst 0, 1) := by decide +kernel
theorem dX5_wipe_13 : decode cX5_wipe 13 = .ok (.putfield 216, 3) := by decide +kernel
theorem dX5_wipe_16 : decode cX5_wipe 16 = .ok (.iload_n 1, 1) := by decide +kernel
theorem dX5_wipe_17 : decode cX5_wipe 17 = .ok (.ireturn, 1) := by decide +kernel
theorem dX5_spring_0 : decode cX5_spring 0 = .ok (.aload_n 0, 1) := by decide +kernel
theorem dX5_spring_1 : decode cX5_spring 1 = .ok (.getfield 22, 3) := by decide +kernel
theorem dX5_spring_4 : decode cX5_spring 4 = .ok (.aload_n 0, 1) := by decide +kernel
theorem dX5_spring_5 : decode cX5_spring 5 = .ok (.getfield 12, 3) := by decide +kernel
theorem dX5_spring_8 : decode cX5_spring 8 = .ok (.invokevirtual 223, 3) := by decide +kernel
theorem dX5_spring_11 : decode cX5_spring 11 = .ok (.istore_n 1, 1) := by decide +kernel
theorem dX5_spring_12 : decode cX5_spring 12 = .ok (.iload_n 1, 1) := by decide +kernel
theorem dX5_spring_13 : decode cX5_spring 13 = .ok (.ifCond .lt 17, 3) := by decide +kernel
theorem dX5_spring_16 : decode cX5_spring 16 = .ok (.aload_n 0, 1) := by decide +kernel
theorem dX5_spring_17 : decode cX5_spring 17 = .ok (.getfield 12, 3) := by decide +kernel
theorem dX5_spring_20 : decode cX5_spring 20 = .ok (.aload_n 0, 1) := by decide +kernel
theorem dX5_spring_21 : decode cX5_spring 21 = .ok (.getfield 22, 3) := by decide +kernel
theorem dX5_spring_24 : decode cX5_spring 24 = .ok (.getfield 227, 3) := by decide +kernel
theorem dX5_spring_27 : decode cX5_spring 27 = .ok (.invokevirtual 230, 3) := by decide +kernel
theorem dX5_spring_30 : decode cX5_spring 30 = .ok (.aload_n 0, 1) := by decide +kernel
theorem dX5_spring_31 : decode cX5_spring 31 = .ok (.getfield 22, 3) := by decide +kernel
theorem dX5_spring_34 : decode cX5_spring 34 = .ok (.iconst 0, 1) := by decide +kernel
theorem dX5_spring_35 : decode cX5_spring 35 = .ok (.putfield 216, 3) := by decide +kernel
theorem dX5_spring_38 : decode cX5_spring 38 = .ok (.iload_n 1, 1) := by decide +kernel
theorem dX5_spring_39 : decode cX5_spring 39 = .ok (.ireturn, 1) := by decide +kernel
theorem dX5_sheet_0 : decode cX5_sheet 0 = .ok (.aload_n 0, 1) := by decide +kernel
theorem dX5_sheet_1 : decode cX5_sheet 1 = .ok (.iload_n 1, 1) := by decide +kernel
theorem dX5_sheet_2 : decode cX5_sheet 2 = .ok (.invokevirtual 233, 3) := by decide +kernel
theorem dX5_sheet_5 : decode cX5_sheet 5 = .ok (.astore 4, 2) := by decide +kernel
theorem dX5_sheet_7 : decode cX5_sheet 7 = .ok (.aload 4, 2) := by decide +kernel
theorem dX5_sheet_9 : decode cX5_sheet 9 = .ok (.ifnull 10, 3) := by decide +kernel
theorem dX5_sheet_12 : decode cX5_sheet 12 = .ok (.iload_n 2, 1) := by decide +kernel
theorem dX5_sheet_13 : decode cX5_sheet 13 = .ok (.invokestatic 237, 3) := by decide +kernel
theorem dX5_sheet_16 : decode cX5_sheet 16 = .ok (.ifCond .ne 10, 3) := by decide +kernel
theorem dX5_sheet_19 : decode cX5_sheet 19 = .ok (.aload_n 0, 1) := by decide +kernel
theorem dX5_sheet_20 : decode cX5_sheet 20 = .ok (.ldc 58, 2) := by decide +kernel
theorem dX5_sheet_22 : decode cX5_sheet 22 = .ok (.invokevirtual 59, 3) := by decide +kernel
theorem dX5_sheet_25 : decode cX5_sheet 25 = .ok (.ireturn, 1) := by decide +kernel
theorem dX5_sheet_26 : decode cX5_sheet 26 = .ok (.iload_n 3, 1) := by decide +kernel
theorem dX5_sheet_27 : decode cX5_sheet 27 = .ok (.ifCond .ge 10, 3) := by decide +kernel
theorem dX5_sheet_30 : decode cX5_sheet 30 = .ok (.aload_n 0, 1) := by decide +kernel
theorem dX5_sheet_31 : decode cX5_sheet 31 = .ok (.ldc 239, 2) := by decide +kernel
theorem dX5_sheet_33 : decode cX5_sheet 33 = .ok (.invokevirtual 59, 3) := by decide +kernel
theorem dX5_sheet_36 : decode cX5_sheet 36 = .ok (.ireturn, 1) := by decide +kernel
theorem dX5_sheet_37 : decode cX5_sheet 37 = .ok (.iload_n 3, 1) := by decide +kernel
theorem dX5_sheet_38 : decode cX5_sheet 38 = .ok (.bipush 40, 2) := by decide +kernel
theorem dX5_sheet_40 : decode cX5_sheet 40 = .ok (.if_icmp .le 10, 3) := by decide +kernel
theorem dX5_sheet_43 : decode cX5_sheet 43 = .ok (.aload_n 0, 1) := by decide +kernel
theorem dX5_sheet_44 : decode cX5_sheet 44 = .ok (.ldc 58, 2) := by decide +kernel
theorem dX5_sheet_46 : decode cX5_sheet 46 = .ok (.invokevirtual 59, 3) := by decide +kernel
theorem dX5_sheet_49 : decode cX5_sheet 49 = .ok (.ireturn, 1) := by decide +kernel
theorem dX5_sheet_50 : decode cX5_sheet 50 = .ok (.aload 4, 2) := by decide +kernel
theorem dX5_sheet_52 : decode cX5_sheet 52 = .ok (.iload_n 2, 1) := by decide +kernel
theorem dX5_sheet_53 : decode cX5_sheet 53 = .ok (.iload_n 3, 1) := by decide +kernel
theorem dX5_sheet_54 : decode cX5_sheet 54 = .ok (.invokevirtual 240, 3) := by decide +kernel
theorem dX5_sheet_57 : decode cX5_sheet 57 = .ok (.aload 4, 2) := by decide +kernel
theorem dX5_sheet_59 : decode cX5_sheet 59 = .ok (.getfield 243, 3) := by decide +kernel
theorem dX5_sheet_62 : decode cX5_sheet 62 = .ok (.ireturn, 1) := by decide +kernel
theorem dX5_write_0 : decode cX5_write 0 = .ok (.aload_n 0, 1) := by decide +kernel
theorem dX5_write_1 : decode cX5_write 1 = .ok (.iload_n 1, 1) := by decide +kernel
theorem dX5_write_2 : decode cX5_write 2 = .ok (.invokevirtual 233, 3) := by decide +kernel
theorem dX5_write_5 : decode cX5_write 5 = .ok (.astore 5, 2) := by decide +kernel
theorem dX5_write_7 : decode cX5_write 7 = .ok (.aload 5, 2) := by decide +kernel
theorem dX5_write_9 : decode cX5_write 9 = .ok (.ifnonnull 11, 3) := by decide +kernel
theorem dX5_write_12 : decode cX5_write 12 = .ok (.aload_n 0, 1) := by decide +kernel
theorem dX5_write_13 : decode cX5_write 13 = .ok (.ldc 58, 2) := by decide +kernel
theorem dX5_write_15 : decode cX5_write 15 = .ok (.invokevirtual 59, 3) := by decide +kernel
theorem dX5_write_18 : decode cX5_write 18 = .ok (.i2l, 1) := by decide +kernel
theorem dX5_write_19 : decode cX5_write 19 = .ok (.lreturn, 1) := by decide +kernel
theorem dX5_write_20 : decode cX5_write 20 = .ok (.aload 5, 2) := by decide +kernel
theorem dX5_write_22 : decode cX5_write 22 = .ok (.invokevirtual 246, 3) := by decide +kernel
theorem dX5_write_25 : decode cX5_write 25 = .ok (.ifCond .eq 11, 3) := by decide +kernel
theorem dX5_write_28 : decode cX5_write 28 = .ok (.aload_n 0, 1) := by decide +kernel
theorem dX5_write_29 : decode cX5_write 29 = .ok (.ldc 250, 2) := by decide +kernel
theorem dX5_write_31 : decode cX5_write 31 = .ok (.invokevirtual 59, 3) := by decide +kernel
theorem dX5_write_34 : decode cX5_write 34 = .ok (.i2l, 1) := by decide +kernel
theorem dX5_write_35 : decode cX5_write 35 = .ok (.lreturn, 1) := by decide +kernel
theorem dX5_write_36 : decode cX5_write 36 = .ok (.iload_n 2, 1) := by decide +kernel
theorem dX5_write_37 : decode cX5_write 37 = .ok (.iconst 0, 1) := by decide +kernel
theorem dX5_write_38 : decode cX5_write 38 = .ok (.aload 5, 2) := by decide +kernel
theorem dX5_write_40 : decode cX5_write 40 = .ok (.getfield 243, 3) := by decide +kernel
theorem dX5_write_43 : decode cX5_write 43 = .ok (.iconst 1, 1) := by decide +kernel
theorem dX5_write_44 : decode cX5_write 44 = .ok (.isub, 1) := by decide +kernel
theorem dX5_write_45 : decode cX5_write 45 = .ok (.invokestatic 92, 3) := by decide +kernel
theorem dX5_write_48 : decode cX5_write 48 = .ok (.ifCond .ne 11, 3) := by decide +kernel
theorem dX5_write_51 : decode cX5_write 51 = .ok (.aload_n 0, 1) := by decide +kernel
theorem dX5_write_52 : decode cX5_write 52 = .ok (.ldc 58, 2) := by decide +kernel
theorem dX5_write_54 : decode cX5_write 54 = .ok (.invokevirtual 59, 3) := by decide +kernel
theorem dX5_write_57 : decode cX5_write 57 = .ok (.i2l, 1) := by decide +kernel
theorem dX5_write_58 : decode cX5_write 58 = .ok (.lreturn, 1) := by decide +kernel
theorem dX5_write_59 : decode cX5_write 59 = .ok (.aload 5, 2) := by decide +kernel
theorem dX5_write_61 : decode cX5_write 61 = .ok (.iload_n 2, 1) := by decide +kernel
theorem dX5_write_62 : decode cX5_write 62 = .ok (.invokevirtual 251, 3) := by decide +kernel
theorem dX5_write_65 : decode cX5_write 65 = .ok (.lstore 6, 2) := by decide +kernel
theorem dX5_write_67 : decode cX5_write 67 = .ok (.aload 5, 2) := by decide +kernel
theorem dX5_write_69 : decode cX5_write 69 = .ok (.iload_n 2, 1) := by decide +kernel
theorem dX5_write_70 : decode cX5_write 70 = .ok (.lload_n 3, 1) := by decide +kernel
theorem dX5_write_71 : decode cX5_write 71 = .ok (.invokevirtual 255, 3) := by decide +kernel
theorem dX5_write_74 : decode cX5_write 74 = .ok (.lload 6, 2) := by decide +kernel
theorem dX5_write_76 : decode cX5_write 76 = .ok (.lreturn, 1) := by decide +kernel
theorem dX5_copy_0 : decode cX5_copy 0 = .ok (.aload_n 0, 1) := by decide +kernel
theorem dX5_copy_1 : decode cX5_copy 1 = .ok (.iload_n 1, 1) := by decide +kernel
theorem dX5_copy_2 : decode cX5_copy 2 = .ok (.invokevirtual 233, 3) := by decide +kernel
theorem dX5_copy_5 : decode cX5_copy 5 = .ok (.astore 6, 2) := by decide +kernel
theorem dX5_copy_7 : decode cX5_copy 7 = .ok (.aload_n 0, 1) := by decide +kernel
theorem dX5_copy_8 : decode cX5_copy 8 = .ok (.iload_n 3, 1) := by decide +kernel
theorem dX5_copy_9 : decode cX5_copy 9 = .ok (.invokevirtual 233, 3) := by decide +kernel
theorem dX5_copy_12 : decode cX5_copy 12 = .ok (.astore 7, 2) := by decide +kernel
theorem dX5_copy_14 : decode cX5_copy 14 = .ok (.aload 6, 2) := by decide +kernel
theorem dX5_copy_16 : decode cX5_copy 16 = .ok (.ifnull 8, 3) := by decide +kernel
theorem dX5_copy_19 : decode cX5_copy 19 = .ok (.aload 7, 2) := by decide +kernel
theorem dX5_copy_21 : decode cX5_copy 21 = .ok (.ifnonnull 10, 3) := by decide +kernel
theorem dX5_copy_24 : decode cX5_copy 24 = .ok (.aload_n 0, 1) := by decide +kernel
theorem dX5_copy_25 : decode cX5_copy 25 = .ok (.ldc 58, 2) := by decide +kernel
theorem dX5_copy_27 : decode cX5_copy 27 = .ok (.invokevirtual 59, 3) := by decide +kernel
theorem dX5_copy_30 : decode cX5_copy 30 = .ok (.ireturn, 1) := by decide +kernel
theorem dX5_copy_31 : decode cX5_copy 31 = .ok (.aload 6, 2) := by decide +kernel
theorem dX5_copy_33 : decode cX5_copy 33 = .ok (.invokevirtual 246, 3) := by decide +kernel
theorem dX5_copy_36 : decode cX5_copy 36 = .ok (.ifCond .ne 11, 3) := by decide +kernel
theorem dX5_copy_39 : decode cX5_copy 39 = .ok (.aload 7, 2) := by decide +kernel
theorem dX5_copy_41 : decode cX5_copy 41 = .ok (.invokevirtual 246, 3) := by decide +kernel
theorem dX5_copy_44 : decode cX5_copy 44 = .ok (.ifCond .eq 10, 3) := by decide +kernel
theorem dX5_copy_47 : decode cX5_copy 47 = .ok (.aload_n 0, 1) := by decide +kernel
theorem dX5_copy_48 : decode cX5_copy 48 = .ok (.ldc 250, 2) := by decide +kernel
theorem dX5_copy_50 : decode cX5_copy 50 = .ok (.invokevirtual 59, 3) := by decide +kernel
theorem dX5_copy_53 : decode cX5_copy 53 = .ok (.ireturn, 1) := by decide +kernel
theorem dX5_copy_54 : decode cX5_copy 54 = .ok (.aload 6, 2) := by decide +kernel
theorem dX5_copy_56 : decode cX5_copy 56 = .ok (.getfield 259, 3) := by decide +kernel
theorem dX5_copy_59 : decode cX5_copy 59 = .ok (.aload 7, 2) := by decide +kernel
theorem dX5_copy_61 : decode cX5_copy 61 = .ok (.getfield 259, 3) := by decide +kernel
theorem dX5_copy_64 : decode cX5_copy 64 = .ok (.if_icmp .eq 10, 3) := by decide +kernel
theorem dX5_copy_67 : decode cX5_copy 67 = .ok (.aload_n 0, 1) := by decide +kernel
theorem dX5_copy_68 : decode cX5_copy 68 = .ok (.ldc 90, 2) := by decide +kernel
theorem dX5_copy_70 : decode cX5_copy 70 = .ok (.invokevirtual 59, 3) := by decide +kernel
theorem dX5_copy_73 : decode cX5_copy 73 = .ok (.ireturn, 1) := by decide +kernel
theorem dX5_copy_74 : decode cX5_copy 74 = .ok (.aload 6, 2) := by decide +kernel
theorem dX5_copy_76 : decode cX5_copy 76 = .ok (.iload_n 2, 1) := by decide +kernel
theorem dX5_copy_77 : decode cX5_copy 77 = .ok (.iload 5, 2) := by decide +kernel
theorem dX5_copy_79 : decode cX5_copy 79 = .ok (.invokevirtual 262, 3) := by decide +kernel
theorem dX5_copy_82 : decode cX5_copy 82 = .ok (.ifCond .eq 15, 3) := by decide +kernel
theorem dX5_copy_85 : decode cX5_copy 85 = .ok (.aload 7, 2) := by decide +kernel
theorem dX5_copy_87 : decode cX5_copy 87 = .ok (.iload 4, 2) := by decide +kernel
theorem dX5_copy_89 : decode cX5_copy 89 = .ok (.iload 5, 2) := by decide +kernel
theorem dX5_copy_91 : decode cX5_copy 91 = .ok (.invokevirtual 262, 3) := by decide +kernel
theorem dX5_copy_94 : decode cX5_copy 94 = .ok (.ifCond .ne 10, 3) := by decide +kernel
theorem dX5_copy_97 : decode cX5_copy 97 = .ok (.aload_n 0, 1) := by decide +kernel
theorem dX5_copy_98 : decode cX5_copy 98 = .ok (.ldc 58, 2) := by decide +kernel
theorem dX5_copy_100 : decode cX5_copy 100 = .ok (.invokevirtual 59, 3) := by decide +kernel
theorem dX5_copy_103 : decode cX5_copy 103 = .ok (.ireturn, 1) := by decide +kernel
theorem dX5_copy_104 : decode cX5_copy 104 = .ok (.aload 6, 2) := by decide +kernel
theorem dX5_copy_106 : decode cX5_copy 106 = .ok (.getfield 265, 3) := by decide +kernel
theorem dX5_copy_109 : decode cX5_copy 109 = .ok (.iload_n 2, 1) := by decide +kernel
theorem dX5_copy_110 : decode cX5_copy 110 = .ok (.aload 7, 2) := by decide +kernel
theorem dX5_copy_112 : decode cX5_copy 112 = .ok (.getfield 265, 3) := by decide +kernel
theorem dX5_copy_115 : decode cX5_copy 115 = .ok (.iload 4, 2) := by decide +kernel
theorem dX5_copy_117 : decode cX5_copy 117 = .ok (.iload 5, 2) := by decide +kernel
theorem dX5_copy_119 : decode cX5_copy 119 = .ok (.invokestatic 269, 3) := by decide +kernel
theorem dX5_copy_122 : decode cX5_copy 122 = .ok (.iload 5, 2) := by decide +kernel
theorem dX5_copy_124 : decode cX5_copy 124 = .ok (.ireturn, 1) := by decide +kernel
theorem dX5_lays_0 : decode cX5_lays 0 = .ok (.aload_n 0, 1) := by decide +kernel
theorem dX5_lays_1 : decode cX5_lays 1 = .ok (.iload_n 1, 1) := by decide +kernel
theorem dX5_lays_2 : decode cX5_lays 2 = .ok (.invokevirtual 233, 3) := by decide +kernel
theorem dX5_lays_5 : decode cX5_lays 5 = .ok (.astore_n 2, 1) := by decide +kernel
theorem dX5_lays_6 : decode cX5_lays 6 = .ok (.aload_n 2, 1) := by decide +kernel
theorem dX5_lays_7 : decode cX5_lays 7 = .ok (.ifnonnull 10, 3) := by decide +kernel
theorem dX5_lays_10 : decode cX5_lays 10 = .ok (.aload_n 0, 1) := by decide +kernel
theorem dX5_lays_11 : decode cX5_lays 11 = .ok (.ldc 58, 2) := by decide +kernel
theorem dX5_lays_13 : decode cX5_lays 13 = .ok (.invokevirtual 59, 3) := by decide +kernel
theorem dX5_lays_16 : decode cX5_lays 16 = .ok (.ireturn, 1) := by decide +kernel
theorem dX5_lays_17 : decode cX5_lays 17 = .ok (.aload_n 2, 1) := by decide +kernel
theorem dX5_lays_18 : decode cX5_lays 18 = .ok (.invokevirtual 246, 3) := by decide +kernel
theorem dX5_lays_21 : decode cX5_lays 21 = .ok (.ifCond .eq 10, 3) := by decide +kernel
theorem dX5_lays_24 : decode cX5_lays 24 = .ok (.aload_n 0, 1) := by decide +kernel
theorem dX5_lays_25 : decode cX5_lays 25 = .ok (.ldc 250, 2) := by decide +kernel
theorem dX5_lays_27 : decode cX5_lays 27 = .ok (.invokevirtual 59, 3) := by decide +kernel
theorem dX5_lays_30 : decode cX5_lays 30 = .ok (.ireturn, 1) := by decide +kernel
theorem dX5_lays_31 : decode cX5_lays 31 = .ok (.iconst 0, 1) := by decide +kernel
theorem dX5_lays_32 : decode cX5_lays 32 = .ok (.istore_n 3, 1) := by decide +kernel
theorem dX5_lays_33 : decode cX5_lays 33 = .ok (.iconst 0, 1) := by decide +kernel
theorem dX5_lays_34 : decode cX5_lays 34 = .ok (.istore 4, 2) := by decide +kernel
theorem dX5_lays_36 : decode cX5_lays 36 = .ok (.iload 4, 2) := by decide +kernel
theorem dX5_lays_38 : decode cX5_lays 38 = .ok (.aload_n 2, 1) := by decide +kernel
theorem dX5_lays_39 : decode cX5_lays 39 = .ok (.getfield 243, 3) := by decide +kernel
theorem dX5_lays_42 : decode cX5_lays 42 = .ok (.if_icmp .ge 60, 3) := by decide +kernel
theorem dX5_lays_45 : decode cX5_lays 45 = .ok (.aload_n 0, 1) := by decide +kernel
theorem dX5_lays_46 : decode cX5_lays 46 = .ok (.getfield 12, 3) := by decide +kernel
theorem dX5_lays_49 : decode cX5_lays 49 = .ok (.iload 4, 2) := by decide +kernel
theorem dX5_lays_51 : decode cX5_lays 51 = .ok (.invokevirtual 124, 3) := by decide +kernel
theorem dX5_lays_54 : decode cX5_lays 54 = .ok (.astore 5, 2) := by decide +kernel
theorem dX5_lays_56 : decode cX5_lays 56 = .ok (.aload_n 2, 1) := by decide +kernel
theorem dX5_lays_57 : decode cX5_lays 57 = .ok (.iload 4, 2) := by decide +kernel
theorem dX5_lays_59 : decode cX5_lays 59 = .ok (.invokevirtual 251, 3) := by decide +kernel
theorem dX5_lays_62 : decode cX5_lays 62 = .ok (.lstore 6, 2) := by decide +kernel
theorem dX5_lays_64 : decode cX5_lays 64 = .ok (.aload 5, 2) := by decide +kernel
theorem dX5_lays_66 : decode cX5_lays 66 = .ok (.ifnull 30, 3) := by decide +kernel
theorem dX5_lays_69 : decode cX5_lays 69 = .ok (.lload 6, 2) := by decide +kernel
theorem dX5_lays_71 : decode cX5_lays 71 = .ok (.lconst 0, 1) := by decide +kernel
theorem dX5_lays_72 : decode cX5_lays 72 = .ok (.lcmp, 1) := by decide +kernel
theorem dX5_lays_73 : decode cX5_lays 73 = .ok (.ifCond .lt 23, 3) := by decide +kernel
theorem dX5_lays_76 : decode cX5_lays 76 = .ok (.lload 6, 2) := by decide +kernel
theorem dX5_lays_78 : decode cX5_lays 78 = .ok (.ldc2_w 275, 3) := by decide +kernel
theorem dX5_lays_81 : decode cX5_lays 81 = .ok (.lcmp, 1) := by decide +kernel
theorem dX5_lays_82 : decode cX5_lays 82 = .ok (.ifCond .gt 14, 3) := by decide +kernel
theorem dX5_lays_85 : decode cX5_lays 85 = .ok (.aload 5, 2) := by decide +kernel
theorem dX5_lays_87 : decode cX5_lays 87 = .ok (.lload 6, 2) := by decide +kernel
theorem dX5_lays_89 : decode cX5_lays 89 = .ok (.l2i, 1) := by decide +kernel
theorem dX5_lays_90 : decode cX5_lays 90 = .ok (.putfield 128, 3) := by decide +kernel
theorem dX5_lays_93 : decode cX5_lays 93 = .ok (.iinc 3 1, 3) := by decide +kernel
theorem dX5_lays_96 : decode cX5_lays 96 = .ok (.iinc 4 1, 3) := by decide +kernel
theorem dX5_lays_99 : decode cX5_lays 99 = .ok (.goto (-63), 3) := by decide +kernel
theorem dX5_lays_102 : decode cX5_lays 102 = .ok (.iload_n 3, 1) := by decide +kernel
theorem dX5_lays_103 : decode cX5_lays 103 = .ok (.ireturn, 1) := by decide +kernel
theorem dX5_book_0 : decode cX5_book 0 = .ok (.aload_n 0, 1) := by decide +kernel
theorem dX5_book_1 : decode cX5_book 1 = .ok (.iload_n 1, 1) := by decide +kernel
theorem dX5_book_2 : decode cX5_book 2 = .ok (.invokevirtual 233, 3) := by decide +kernel
theorem dX5_book_5 : decode cX5_book 5 = .ok (.astore_n 3, 1) := by decide +kernel
theorem dX5_book_6 : decode cX5_book 6 = .ok (.aload_n 3, 1) := by decide +kernel
theorem dX5_book_7 : decode cX5_book 7 = .ok (.ifnonnull 10, 3) := by decide +kernel
theorem dX5_book_10 : decode cX5_book 10 = .ok (.aload_n 0, 1) := by decide +kernel
theorem dX5_book_11 : decode cX5_book 11 = .ok (.ldc 58, 2) := by decide +kernel
theorem dX5_book_13 : decode cX5_book 13 = .ok (.invokevirtual 59, 3) := by decide +kernel
theorem dX5_book_16 : decode cX5_book 16 = .ok (.ireturn, 1) := by decide +kernel
theorem dX5_book_17 : decode cX5_book 17 = .ok (.aload_n 3, 1) := by decide +kernel
theorem dX5_book_18 : decode cX5_book 18 = .ok (.invokevirtual 246, 3) := by decide +kernel
theorem dX5_book_21 : decode cX5_book 21 = .ok (.ifCond .eq 10, 3) := by decide +kernel
theorem dX5_book_24 : decode cX5_book 24 = .ok (.aload_n 0, 1) := by decide +kernel
theorem dX5_book_25 : decode cX5_book 25 = .ok (.ldc 250, 2) := by decide +kernel
theorem dX5_book_27 : decode cX5_book 27 = .ok (.invokevirtual 59, 3) := by decide +kernel
theorem dX5_book_30 : decode cX5_book 30 = .ok (.ireturn, 1) := by decide +kernel
theorem dX5_book_31 : decode cX5_book 31 = .ok (.aload_n 0, 1) := by decide +kernel
theorem dX5_book_32 : decode cX5_book 32 = .ok (.getfield 12, 3) := by decide +kernel
theorem dX5_book_35 : decode cX5_book 35 = .ok (.iload_n 2, 1) := by decide +kernel
theorem dX5_book_36 : decode cX5_book 36 = .ok (.invokevirtual 124, 3) := by decide +kernel
theorem dX5_book_39 : decode cX5_book 39 = .ok (.astore 4, 2) := by decide +kernel
theorem dX5_book_41 : decode cX5_book 41 = .ok (.aload 4, 2) := by decide +kernel
theorem dX5_book_43 : decode cX5_book 43 = .ok (.ifnonnull 10, 3) := by decide +kernel
theorem dX5_book_46 : decode cX5_book 46 = .ok (.aload_n 0, 1) := by decide +kernel
theorem dX5_book_47 : decode cX5_book 47 = .ok (.ldc 58, 2) := by decide +kernel
theorem dX5_book_49 : decode cX5_book 49 = .ok (.invokevirtual 59, 3) := by decide +kernel
theorem dX5_book_52 : decode cX5_book 52 = .ok (.ireturn, 1) := by decide +kernel
theorem dX5_book_53 : decode cX5_book 53 = .ok (.aload_n 0, 1) := by decide +kernel
theorem dX5_book_54 : decode cX5_book 54 = .ok (.aload_n 3, 1) := by decide +kernel
theorem dX5_book_55 : decode cX5_book 55 = .ok (.getfield 243, 3) := by decide +kernel
theorem dX5_book_58 : decode cX5_book 58 = .ok (.invokevirtual 176, 3) := by decide +kernel
theorem dX5_book_61 : decode cX5_book 61 = .ok (.aload_n 0, 1) := by decide +kernel
theorem dX5_book_62 : decode cX5_book 62 = .ok (.getfield 42, 3) := by decide +kernel
theorem dX5_book_65 : decode cX5_book 65 = .ok (.aload 4, 2) := by decide +kernel
theorem dX5_book_67 : decode cX5_book 67 = .ok (.invokevirtual 205, 3) := by decide +kernel
theorem dX5_book_70 : decode cX5_book 70 = .ok (.iconst 0, 1) := by decide +kernel
theorem dX5_book_71 : decode cX5_book 71 = .ok (.istore 5, 2) := by decide +kernel
theorem dX5_book_73 : decode cX5_book 73 = .ok (.iload 5, 2) := by decide +kernel
theorem dX5_book_75 : decode cX5_book 75 = .ok (.aload_n 3, 1) := by decide +kernel
theorem dX5_book_76 : decode cX5_book 76 = .ok (.getfield 243, 3) := by decide +kernel
theorem dX5_book_79 : decode cX5_book 79 = .ok (.if_icmp .ge 61, 3) := by decide +kernel
theorem dX5_book_82 : decode cX5_book 82 = .ok (.iload 5, 2) := by decide +kernel
theorem dX5_book_84 : decode cX5_book 84 = .ok (.aload_n 0, 1) := by decide +kernel
theorem dX5_book_85 : decode cX5_book 85 = .ok (.getfield 36, 3) := by decide +kernel
theorem dX5_book_88 : decode cX5_book 88 = .ok (.arraylength, 1) := by decide +kernel
theorem dX5_book_89 : decode cX5_book 89 = .ok (.if_icmp .ge 51, 3) := by decide +kernel
theorem dX5_book_92 : decode cX5_book 92 = .ok (.aload_n 3, 1) := by decide +kernel
theorem dX5_book_93 : decode cX5_book 93 = .ok (.iload 5, 2) := by decide +kernel
theorem dX5_book_95 : decode cX5_book 95 = .ok (.aload_n 0, 1) := by decide +kernel
theorem dX5_book_96 : decode cX5_book 96 = .ok (.getfield 42, 3) := by decide +kernel
theorem dX5_book_99 : decode cX5_book 99 = .ok (.getfield 128, 3) := by decide +kernel
theorem dX5_book_102 : decode cX5_book 102 = .ok (.i2l, 1) := by decide +kernel
theorem dX5_book_103 : decode cX5_book 103 = .ok (.invokevirtual 255, 3) := by decide +kernel
theorem dX5_book_106 : decode cX5_book 106 = .ok (.aload_n 0, 1) := by decide +kernel
theorem dX5_book_107 : decode cX5_book 107 = .ok (.getfield 42, 3) := by decide +kernel
theorem dX5_book_110 : decode cX5_book 110 = .ok (.aload_n 0, 1) := by decide +kernel
theorem dX5_book_111 : decode cX5_book 111 = .ok (.getfield 36, 3) := by decide +kernel
theorem dX5_book_114 : decode cX5_book 114 = .ok (.iload 5, 2) := by decide +kernel
theorem dX5_book_116 : decode cX5_book 116 = .ok (.iaload, 1) := by decide +kernel
theorem dX5_book_117 : decode cX5_book 117 = .ok (.aload_n 0, 1) := by decide +kernel
theorem dX5_book_118 : decode cX5_book 118 = .ok (.getfield 12, 3) := by decide +kernel
theorem dX5_book_121 : decode cX5_book 121 = .ok (.getfield 111, 3) := by decide +kernel
theorem dX5_book_124 : decode cX5_book 124 = .ok (.aload_n 0, 1) := by decide +kernel
theorem dX5_book_125 : decode cX5_book 125 = .ok (.getfield 12, 3) := by decide +kernel
theorem dX5_book_128 : decode cX5_book 128 = .ok (.getfield 108, 3) := by decide +kernel
theorem dX5_book_131 : decode cX5_book 131 = .ok (.invokevirtual 277, 3) := by decide +kernel
theorem dX5_book_134 : decode cX5_book 134 = .ok (.iinc 5 1, 3) := by decide +kernel
theorem dX5_book_137 : decode cX5_book 137 = .ok (.goto (-64), 3) := by decide +kernel
theorem dX5_book_140 : decode cX5_book 140 = .ok (.aload_n 3, 1) := by decide +kernel
theorem dX5_book_141 : decode cX5_book 141 = .ok (.getfield 243, 3) := by decide +kernel
theorem dX5_book_144 : decode cX5_book 144 = .ok (.ireturn, 1) := by decide +kernel
theorem dX5_read_0 : decode cX5_read 0 = .ok (.aload_n 0, 1) := by decide +kernel
theorem dX5_read_1 : decode cX5_read 1 = .ok (.iload_n 1, 1) := by decide +kernel
theorem dX5_read_2 : decode cX5_read 2 = .ok (.invokevirtual 233, 3) := by decide +kernel
theorem dX5_read_5 : decode cX5_read 5 = .ok (.astore_n 3, 1) := by decide +kernel
theorem dX5_read_6 : decode cX5_read 6 = .ok (.aload_n 3, 1) := by decide +kernel
theorem dX5_read_7 : decode cX5_read 7 = .ok (.ifnonnull 10, 3) := by decide +kernel
theorem dX5_read_10 : decode cX5_read 10 = .ok (.aload_n 0, 1) := by decide +kernel
theorem dX5_read_11 : decode cX5_read 11 = .ok (.ldc 58, 2) := by decide +kernel
theorem dX5_read_13 : decode cX5_read 13 = .ok (.invokevirtual 59, 3) := by decide +kernel
theorem dX5_read_16 : decode cX5_read 16 = .ok (.ireturn, 1) := by decide +kernel
theorem dX5_read_17 : decode cX5_read 17 = .ok (.aload_n 3, 1) := by decide +kernel
theorem dX5_read_18 : decode cX5_read 18 = .ok (.invokevirtual 246, 3) := by decide +kernel
theorem dX5_read_21 : decode cX5_read 21 = .ok (.ifCond .eq 10, 3) := by decide +kernel
theorem dX5_read_24 : decode cX5_read 24 = .ok (.aload_n 0, 1) := by decide +kernel
theorem dX5_read_25 : decode cX5_read 25 = .ok (.ldc 250, 2) := by decide +kernel
theorem dX5_read_27 : decode cX5_read 27 = .ok (.invokevirtual 59, 3) := by decide +kernel
theorem dX5_read_30 : decode cX5_read 30 = .ok (.ireturn, 1) := by decide +kernel
theorem dX5_read_31 : decode cX5_read 31 = .ok (.aload_n 0, 1) := by decide +kernel
theorem dX5_read_32 : decode cX5_read 32 = .ok (.getfield 12, 3) := by decide +kernel
theorem dX5_read_35 : decode cX5_read 35 = .ok (.iload_n 2, 1) := by decide +kernel
theorem dX5_read_36 : decode cX5_read 36 = .ok (.invokevirtual 124, 3) := by decide +kernel
theorem dX5_read_39 : decode cX5_read 39 = .ok (.astore 4, 2) := by decide +kernel
theorem dX5_read_41 : decode cX5_read 41 = .ok (.aload 4, 2) := by decide +kernel
theorem dX5_read_43 : decode cX5_read 43 = .ok (.ifnonnull 10, 3) := by decide +kernel
theorem dX5_read_46 : decode cX5_read 46 = .ok (.aload_n 0, 1) := by decide +kernel
theorem dX5_read_47 : decode cX5_read 47 = .ok (.ldc 58, 2) := by decide +kernel
theorem dX5_read_49 : decode cX5_read 49 = .ok (.invokevirtual 59, 3) := by decide +kernel
theorem dX5_read_52 : decode cX5_read 52 = .ok (.ireturn, 1) := by decide +kernel
theorem dX5_read_53 : decode cX5_read 53 = .ok (.aload_n 0, 1) := by decide +kernel
theorem dX5_read_54 : decode cX5_read 54 = .ok (.aload_n 3, 1) := by decide +kernel
theorem dX5_read_55 : decode cX5_read 55 = .ok (.getfield 243, 3) := by decide +kernel
theorem dX5_read_58 : decode cX5_read 58 = .ok (.invokevirtual 176, 3) := by decide +kernel
theorem dX5_read_61 : decode cX5_read 61 = .ok (.iconst 0, 1) := by decide +kernel
theorem dX5_read_62 : decode cX5_read 62 = .ok (.istore 5, 2) := by decide +kernel
theorem dX5_read_64 : decode cX5_read 64 = .ok (.iconst 0, 1) := by decide +kernel
theorem dX5_read_65 : decode cX5_read 65 = .ok (.istore 6, 2) := by decide +kernel
theorem dX5_read_67 : decode cX5_read 67 = .ok (.iload 6, 2) := by decide +kernel
theorem dX5_read_69 : decode cX5_read 69 = .ok (.aload_n 0, 1) := by decide +kernel
theorem dX5_read_70 : decode cX5_read 70 = .ok (.getfield 12, 3) := by decide +kernel
theorem dX5_read_73 : decode cX5_read 73 = .ok (.getfield 63, 3) := by decide +kernel
theorem dX5_read_76 : decode cX5_read 76 = .ok (.if_icmp .ge 47, 3) := by decide +kernel
theorem dX5_read_79 : decode cX5_read 79 = .ok (.iconst (-1), 1) := by decide +kernel
theorem dX5_read_80 : decode cX5_read 80 = .ok (.istore 7, 2) := by decide +kernel
theorem dX5_read_82 : decode cX5_read 82 = .ok (.iload 7, 2) := by decide +kernel
theorem dX5_read_84 : decode cX5_read 84 = .ok (.aload_n 0, 1) := by decide +kernel
theorem dX5_read_85 : decode cX5_read 85 = .ok (.getfield 12, 3) := by decide +kernel
theorem dX5_read_88 : decode cX5_read 88 = .ok (.getfield 63, 3) := by decide +kernel
theorem dX5_read_91 : decode cX5_read 91 = .ok (.if_icmp .ge 26, 3) := by decide +kernel
theorem dX5_read_94 : decode cX5_read 94 = .ok (.aload_n 0, 1) := by decide +kernel
theorem dX5_read_95 : decode cX5_read 95 = .ok (.aload_n 3, 1) := by decide +kernel
theorem dX5_read_96 : decode cX5_read 96 = .ok (.aload 4, 2) := by decide +kernel
theorem dX5_read_98 : decode cX5_read 98 = .ok (.iload 6, 2) := by decide +kernel
theorem dX5_read_100 : decode cX5_read 100 = .ok (.iload 7, 2) := by decide +kernel
theorem dX5_read_102 : decode cX5_read 102 = .ok (.invokevirtual 280, 3) := by decide +kernel
theorem dX5_read_105 : decode cX5_read 105 = .ok (.ifCond .eq 6, 3) := by decide +kernel
theorem dX5_read_108 : decode cX5_read 108 = .ok (.iinc 5 1, 3) := by decide +kernel
theorem dX5_read_111 : decode cX5_read 111 = .ok (.iinc 7 1, 3) := by decide +kernel
theorem dX5_read_114 : decode cX5_read 114 = .ok (.goto (-32), 3) := by decide +kernel
theorem dX5_read_117 : decode cX5_read 117 = .ok (.iinc 6 1, 3) := by decide +kernel
theorem dX5_read_120 : decode cX5_read 120 = .ok (.goto (-53), 3) := by decide +kernel
theorem dX5_read_123 : decode cX5_read 123 = .ok (.iload 5, 2) := by decide +kernel
theorem dX5_read_125 : decode cX5_read 125 = .ok (.ireturn, 1) := by decide +kernel
theorem dX5_image_0 : decode cX5_image 0 = .ok (.aload_n 0, 1) := by decide +kernel
theorem dX5_image_1 : decode cX5_image 1 = .ok (.getfield 16, 3) := by decide +kernel
theorem dX5_image_4 : decode cX5_image 4 = .ok (.aload_n 0, 1) := by decide +kernel
theorem dX5_image_5 : decode cX5_image 5 = .ok (.getfield 12, 3) := by decide +kernel
theorem dX5_image_8 : decode cX5_image 8 = .ok (.invokevirtual 230, 3) := by decide +kernel
theorem dX5_image_11 : decode cX5_image 11 = .ok (.aload_n 0, 1) := by decide +kernel
theorem dX5_image_12 : decode cX5_image 12 = .ok (.iconst 1, 1) := by decide +kernel
theorem dX5_image_13 : decode cX5_image 13 = .ok (.putfield 284, 3) := by decide +kernel
theorem dX5_image_16 : decode cX5_image 16 = .ok (.iconst 1, 1) := by decide +kernel
theorem dX5_image_17 : decode cX5_image 17 = .ok (.ireturn, 1) := by decide +kernel
theorem dX5_undo_0 : decode cX5_undo 0 = .ok (.aload_n 0, 1) := by decide +kernel
theorem dX5_undo_1 : decode cX5_undo 1 = .ok (.getfield 284, 3) := by decide +kernel
theorem dX5_undo_4 : decode cX5_undo 4 = .ok (.ifCond .ne 10, 3) := by decide +kernel
theorem dX5_undo_7 : decode cX5_undo 7 = .ok (.aload_n 0, 1) := by decide +kernel
theorem dX5_undo_8 : decode cX5_undo 8 = .ok (.ldc 187, 2) := by decide +kernel
theorem dX5_undo_10 : decode cX5_undo 10 = .ok (.invokevirtual 59, 3) := by decide +kernel
theorem dX5_undo_13 : decode cX5_undo 13 = .ok (.ireturn, 1) := by decide +kernel
theorem dX5_undo_14 : decode cX5_undo 14 = .ok (.aload_n 0, 1) := by decide +kernel
theorem dX5_undo_15 : decode cX5_undo 15 = .ok (.getfield 12, 3) := by decide +kernel
theorem dX5_undo_18 : decode cX5_undo 18 = .ok (.aload_n 0, 1) := by decide +kernel
theorem dX5_undo_19 : decode cX5_undo 19 = .ok (.getfield 16, 3) := by decide +kernel
theorem dX5_undo_22 : decode cX5_undo 22 = .ok (.invokevirtual 230, 3) := by decide +kernel
theorem dX5_undo_25 : decode cX5_undo 25 = .ok (.aload_n 0, 1) := by decide +kernel
theorem dX5_undo_26 : decode cX5_undo 26 = .ok (.getfield 12, 3) := by decide +kernel
theorem dX5_undo_29 : decode cX5_undo 29 = .ok (.getfield 63, 3) := by decide +kernel
theorem dX5_undo_32 : decode cX5_undo 32 = .ok (.ireturn, 1) := by decide +kernel
theorem dX5_tear_0 : decode cX5_tear 0 = .ok (.aload_n 0, 1) := by decide +kernel
theorem dX5_tear_1 : decode cX5_tear 1 = .ok (.getfield 284, 3) := by decide +kernel
theorem dX5_tear_4 : decode cX5_tear 4 = .ok (.ifCond .eq 7, 3) := by decide +kernel
theorem dX5_tear_7 : decode cX5_tear 7 = .ok (.iconst 1, 1) := by decide +kernel
theorem dX5_tear_8 : decode cX5_tear 8 = .ok (.goto 4, 3) := by decide +kernel
theorem dX5_tear_11 : decode cX5_tear 11 = .ok (.iconst 0, 1) := by decide +kernel
theorem dX5_tear_12 : decode cX5_tear 12 = .ok (.istore_n 1, 1) := by decide +kernel
theorem dX5_tear_13 : decode cX5_tear 13 = .ok (.aload_n 0, 1) := by decide +kernel
theorem dX5_tear_14 : decode cX5_tear 14 = .ok (.iconst 0, 1) := by decide +kernel
theorem dX5_tear_15 : decode cX5_tear 15 = .ok (.putfield 284, 3) := by decide +kernel
theorem dX5_tear_18 : decode cX5_tear 18 = .ok (.iload_n 1, 1) := by decide +kernel
theorem dX5_tear_19 : decode cX5_tear 19 = .ok (.ireturn, 1) := by decide +kernel
theorem dX5_count_0 : decode cX5_count 0 = .ok (.iload_n 1, 1) := by decide +kernel
theorem dX5_count_1 : decode cX5_count 1 = .ok (.tableswitch 63 0 3 #[31, 39, 47, 55], 31) := by decide +kernel
theorem dX5_count_32 : decode cX5_count 32 = .ok (.aload_n 0, 1) := by decide +kernel
theorem dX5_count_33 : decode cX5_count 33 = .ok (.getfield 12, 3) := by decide +kernel
theorem dX5_count_36 : decode cX5_count 36 = .ok (.getfield 63, 3) := by decide +kernel
theorem dX5_count_39 : decode cX5_count 39 = .ok (.ireturn, 1) := by decide +kernel
theorem dX5_count_40 : decode cX5_count 40 = .ok (.aload_n 0, 1) := by decide +kernel
theorem dX5_count_41 : decode cX5_count 41 = .ok (.getfield 22, 3) := by decide +kernel
theorem dX5_count_44 : decode cX5_count 44 = .ok (.getfield 216, 3) := by decide +kernel
theorem dX5_count_47 : decode cX5_count 47 = .ok (.ireturn, 1) := by decide +kernel
theorem dX5_count_48 : decode cX5_count 48 = .ok (.aload_n 0, 1) := by decide +kernel
theorem dX5_count_49 : decode cX5_count 49 = .ok (.getfield 12, 3) := by decide +kernel
theorem dX5_count_52 : decode cX5_count 52 = .ok (.getfield 117, 3) := by decide +kernel
theorem dX5_count_55 : decode cX5_count 55 = .ok (.ireturn, 1) := by decide +kernel
theorem dX5_count_56 : decode cX5_count 56 = .ok (.aload_n 0, 1) := by decide +kernel
theorem dX5_count_57 : decode cX5_count 57 = .ok (.getfield 12, 3) := by decide +kernel
theorem dX5_count_60 : decode cX5_count 60 = .ok (.invokevirtual 288, 3) := by decide +kernel
theorem dX5_count_63 : decode cX5_count 63 = .ok (.ireturn, 1) := by decide +kernel
theorem dX5_count_64 : decode cX5_count 64 = .ok (.aload_n 0, 1) := by decide +kernel
theorem dX5_count_65 : decode cX5_count 65 = .ok (.ldc 58, 2) := by decide +kernel
theorem dX5_count_67 : decode cX5_count 67 = .ok (.invokevirtual 59, 3) := by decide +kernel
theorem dX5_count_70 : decode cX5_count 70 = .ok (.ireturn, 1) := by decide +kernel
theorem dX5_status_0 : decode cX5_status 0 = .ok (.iload_n 1, 1) := by decide +kernel
theorem dX5_status_1 : decode cX5_status 1 = .ok (.iconst (-1), 1) := by decide +kernel
theorem dX5_status_2 : decode cX5_status 2 = .ok (.bipush 6, 2) := by decide +kernel
theorem dX5_status_4 : decode cX5_status 4 = .ok (.invokestatic 92, 3) := by decide +kernel
theorem dX5_status_7 : decode cX5_status 7 = .ok (.ifCond .ne 10, 3) := by decide +kernel
theorem dX5_status_10 : decode cX5_status 10 = .ok (.aload_n 0, 1) := by decide +kernel
theorem dX5_status_11 : decode cX5_status 11 = .ok (.ldc 58, 2) := by decide +kernel
theorem dX5_status_13 : decode cX5_status 13 = .ok (.invokevirtual 59, 3) := by decide +kernel
theorem dX5_status_16 : decode cX5_status 16 = .ok (.ireturn, 1) := by decide +kernel
theorem dX5_status_17 : decode cX5_status 17 = .ok (.iload_n 1, 1) := by decide +kernel
theorem dX5_status_18 : decode cX5_status 18 = .ok (.ifCond .lt 10, 3) := by decide +kernel
theorem dX5_status_21 : decode cX5_status 21 = .ok (.aload_n 0, 1) := by decide +kernel
theorem dX5_status_22 : decode cX5_status 22 = .ok (.getfield 32, 3) := by decide +kernel
theorem dX5_status_25 : decode cX5_status 25 = .ok (.iload_n 1, 1) := by decide +kernel
theorem dX5_status_26 : decode cX5_status 26 = .ok (.iaload, 1) := by decide +kernel
theorem dX5_status_27 : decode cX5_status 27 = .ok (.ireturn, 1) := by decide +kernel
theorem dX5_status_28 : decode cX5_status 28 = .ok (.iconst 0, 1) := by decide +kernel
theorem dX5_status_29 : decode cX5_status 29 = .ok (.istore_n 2, 1) := by decide +kernel
theorem dX5_status_30 : decode cX5_status 30 = .ok (.iconst 0, 1) := by decide +kernel
theorem dX5_status_31 : decode cX5_status 31 = .ok (.istore_n 3, 1) := by decide +kernel
theorem dX5_status_32 : decode cX5_status 32 = .ok (.iload_n 3, 1) := by decide +kernel
theorem dX5_status_33 : decode cX5_status 33 = .ok (.aload_n 0, 1) := by decide +kernel
theorem dX5_status_34 : decode cX5_status 34 = .ok (.getfield 32, 3) := by decide +kernel
theorem dX5_status_37 : decode cX5_status 37 = .ok (.arraylength, 1) := by decide +kernel
theorem dX5_status_38 : decode cX5_status 38 = .ok (.if_icmp .ge 18, 3) := by decide +kernel
theorem dX5_status_41 : decode cX5_status 41 = .ok (.iload_n 2, 1) := by decide +kernel
theorem dX5_status_42 : decode cX5_status 42 = .ok (.aload_n 0, 1) := by decide +kernel
theorem dX5_status_43 : decode cX5_status 43 = .ok (.getfield 32, 3) := by decide +kernel
theorem dX5_status_46 : decode cX5_status 46 = .ok (.iload_n 3, 1) := by decide +kernel
theorem dX5_status_47 : decode cX5_status 47 = .ok (.iaload, 1) := by decide +kernel
theorem dX5_status_48 : decode cX5_status 48 = .ok (.iadd, 1) := by decide +kernel
theorem dX5_status_49 : decode cX5_status 49 = .ok (.istore_n 2, 1) := by decide +kernel
theorem dX5_status_50 : decode cX5_status 50 = .ok (.iinc 3 1, 3) := by decide +kernel
theorem dX5_status_53 : decode cX5_status 53 = .ok (.goto (-21), 3) := by decide +kernel
theorem dX5_status_56 : decode cX5_status 56 = .ok (.iload_n 2, 1) := by decide +kernel
theorem dX5_status_57 : decode cX5_status 57 = .ok (.ireturn, 1) := by decide +kernel
theorem dX5_found_0 : decode cX5_found 0 = .ok (.ldc 58, 2) := by decide +kernel
theorem dX5_found_2 : decode cX5_found 2 = .ok (.iload_n 1, 1) := by decide +kernel
theorem dX5_found_3 : decode cX5_found 3 = .ok (.isub, 1) := by decide +kernel
theorem dX5_found_4 : decode cX5_found 4 = .ok (.istore_n 2, 1) := by decide +kernel
theorem dX5_found_5 : decode cX5_found 5 = .ok (.iload_n 2, 1) := by decide +kernel
theorem dX5_found_6 : decode cX5_found 6 = .ok (.ifCond .lt 22, 3) := by decide +kernel
theorem dX5_found_9 : decode cX5_found 9 = .ok (.iload_n 2, 1) := by decide +kernel
theorem dX5_found_10 : decode cX5_found 10 = .ok (.aload_n 0, 1) := by decide +kernel
theorem dX5_found_11 : decode cX5_found 11 = .ok (.getfield 32, 3) := by decide +kernel
theorem dX5_found_14 : decode cX5_found 14 = .ok (.arraylength, 1) := by decide +kernel
theorem dX5_found_15 : decode cX5_found 15 = .ok (.if_icmp .ge 13, 3) := by decide +kernel
theorem dX5_found_18 : decode cX5_found 18 = .ok (.aload_n 0, 1) := by decide +kernel
theorem dX5_found_19 : decode cX5_found 19 = .ok (.getfield 32, 3) := by decide +kernel
theorem dX5_found_22 : decode cX5_found 22 = .ok (.iload_n 2, 1) := by decide +kernel
theorem dX5_found_23 : decode cX5_found 23 = .ok (.dup2, 1) := by decide +kernel
theorem dX5_found_24 : decode cX5_found 24 = .ok (.iaload, 1) := by decide +kernel
theorem dX5_found_25 : decode cX5_found 25 = .ok (.iconst 1, 1) := by decide +kernel
theorem dX5_found_26 : decode cX5_found 26 = .ok (.iadd, 1) := by decide +kernel
theorem dX5_found_27 : decode cX5_found 27 = .ok (.iastore, 1) := by decide +kernel
theorem dX5_found_28 : decode cX5_found 28 = .ok (.iload_n 1, 1) := by decide +kernel
theorem dX5_found_29 : decode cX5_found 29 = .ok (.ireturn, 1) := by decide +kernel
theorem dX5_sheetAt_0 : decode cX5_sheetAt 0 = .ok (.iload_n 1, 1) := by decide +kernel
theorem dX5_sheetAt_1 : decode cX5_sheetAt 1 = .ok (.ifCond .lt 21, 3) := by decide +kernel
theorem dX5_sheetAt_4 : decode cX5_sheetAt 4 = .ok (.iload_n 1, 1) := by decide +kernel
theorem dX5_sheetAt_5 : decode cX5_sheetAt 5 = .ok (.aload_n 0, 1) := by decide +kernel
theorem dX5_sheetAt_6 : decode cX5_sheetAt 6 = .ok (.getfield 28, 3) := by decide +kernel
theorem dX5_sheetAt_9 : decode cX5_sheetAt 9 = .ok (.arraylength, 1) := by decide +kernel
theorem dX5_sheetAt_10 : decode cX5_sheetAt 10 = .ok (.if_icmp .ge 12, 3) := by decide +kernel
theorem dX5_sheetAt_13 : decode cX5_sheetAt 13 = .ok (.aload_n 0, 1) := by decide +kernel
theorem dX5_sheetAt_14 : decode cX5_sheetAt 14 = .ok (.getfield 28, 3) := by decide +kernel
theorem dX5_sheetAt_17 : decode cX5_sheetAt 17 = .ok (.iload_n 1, 1) := by decide +kernel
theorem dX5_sheetAt_18 : decode cX5_sheetAt 18 = .ok (.aaload, 1) := by decide +kernel
theorem dX5_sheetAt_19 : decode cX5_sheetAt 19 = .ok (.goto 4, 3) := by decide +kernel
theorem dX5_sheetAt_22 : decode cX5_sheetAt 22 = .ok (.aconst_null, 1) := by decide +kernel
theorem dX5_sheetAt_23 : decode cX5_sheetAt 23 = .ok (.areturn, 1) := by decide +kernel
theorem dX5_lookAhead_0 : decode cX5_lookAhead 0 = .ok (.iconst 0, 1) := by decide +kernel
theorem dX5_lookAhead_1 : decode cX5_lookAhead 1 = .ok (.istore_n 2, 1) := by decide +kernel
theorem dX5_lookAhead_2 : decode cX5_lookAhead 2 = .ok (.iload_n 2, 1) := by decide +kernel
theorem dX5_lookAhead_3 : decode cX5_lookAhead 3 = .ok (.iload_n 1, 1) := by decide +kernel
theorem dX5_lookAhead_4 : decode cX5_lookAhead 4 = .ok (.if_icmp .ge 40, 3) := by decide +kernel
theorem dX5_lookAhead_7 : decode cX5_lookAhead 7 = .ok (.iload_n 2, 1) := by decide +kernel
theorem dX5_lookAhead_8 : decode cX5_lookAhead 8 = .ok (.aload_n 0, 1) := by decide +kernel
theorem dX5_lookAhead_9 : decode cX5_lookAhead 9 = .ok (.getfield 36, 3) := by decide +kernel
theorem dX5_lookAhead_12 : decode cX5_lookAhead 12 = .ok (.arraylength, 1) := by decide +kernel
theorem dX5_lookAhead_13 : decode cX5_lookAhead 13 = .ok (.if_icmp .ge 31, 3) := by decide +kernel
theorem dX5_lookAhead_16 : decode cX5_lookAhead 16 = .ok (.aload_n 0, 1) := by decide +kernel
theorem dX5_lookAhead_17 : decode cX5_lookAhead 17 = .ok (.getfield 36, 3) := by decide +kernel
theorem dX5_lookAhead_20 : decode cX5_lookAhead 20 = .ok (.iload_n 2, 1) := by decide +kernel
theorem dX5_lookAhead_21 : decode cX5_lookAhead 21 = .ok (.aload_n 0, 1) := by decide +kernel
theorem dX5_lookAhead_22 : decode cX5_lookAhead 22 = .ok (.getfield 12, 3) := by decide +kernel
theorem dX5_lookAhead_25 : decode cX5_lookAhead 25 = .ok (.aload_n 0, 1) := by decide +kernel
theorem dX5_lookAhead_26 : decode cX5_lookAhead 26 = .ok (.getfield 12, 3) := by decide +kernel
theorem dX5_lookAhead_29 : decode cX5_lookAhead 29 = .ok (.getfield 146, 3) := by decide +kernel
theorem dX5_lookAhead_32 : decode cX5_lookAhead 32 = .ok (.iload_n 2, 1) := by decide +kernel
theorem dX5_lookAhead_33 : decode cX5_lookAhead 33 = .ok (.iadd, 1) := by decide +kernel
theorem dX5_lookAhead_34 : decode cX5_lookAhead 34 = .ok (.invokevirtual 199, 3) := by decide +kernel
theorem dX5_lookAhead_37 : decode cX5_lookAhead 37 = .ok (.iastore, 1) := by decide +kernel
theorem dX5_lookAhead_38 : decode cX5_lookAhead 38 = .ok (.iinc 2 1, 3) := by decide +kernel
theorem dX5_lookAhead_41 : decode cX5_lookAhead 41 = .ok (.goto (-39), 3) := by decide +kernel
theorem dX5_lookAhead_44 : decode cX5_lookAhead 44 = .ok (.return_, 1) := by decide +kernel
theorem dX5_agreeAhead_0 : decode cX5_agreeAhead 0 = .ok (.iload_n 3, 1) := by decide +kernel
theorem dX5_agreeAhead_1 : decode cX5_agreeAhead 1 = .ok (.ifCond .lt 39, 3) := by decide +kernel
theorem dX5_agreeAhead_4 : decode cX5_agreeAhead 4 = .ok (.iload_n 3, 1) := by decide +kernel
theorem dX5_agreeAhead_5 : decode cX5_agreeAhead 5 = .ok (.aload_n 0, 1) := by decide +kernel
theorem dX5_agreeAhead_6 : decode cX5_agreeAhead 6 = .ok (.getfield 36, 3) := by decide +kernel
theorem dX5_agreeAhead_9 : decode cX5_agreeAhead 9 = .ok (.arraylength, 1) := by decide +kernel
theorem dX5_agreeAhead_10 : decode cX5_agreeAhead 10 = .ok (.if_icmp .ge 30, 3) := by decide +kernel
theorem dX5_agreeAhead_13 : decode cX5_agreeAhead 13 = .ok (.aload_n 0, 1) := by decide +kernel
theorem dX5_agreeAhead_14 : decode cX5_agreeAhead 14 = .ok (.getfield 36, 3) := by decide +kernel
theorem dX5_agreeAhead_17 : decode cX5_agreeAhead 17 = .ok (.iload_n 3, 1) := by decide +kernel
theorem dX5_agreeAhead_18 : decode cX5_agreeAhead 18 = .ok (.iaload, 1) := by decide +kernel
theorem dX5_agreeAhead_19 : decode cX5_agreeAhead 19 = .ok (.iload_n 1, 1) := by decide +kernel
theorem dX5_agreeAhead_20 : decode cX5_agreeAhead 20 = .ok (.invokestatic 291, 3) := by decide +kernel
theorem dX5_agreeAhead_23 : decode cX5_agreeAhead 23 = .ok (.aload_n 0, 1) := by decide +kernel
theorem dX5_agreeAhead_24 : decode cX5_agreeAhead 24 = .ok (.getfield 36, 3) := by decide +kernel
theorem dX5_agreeAhead_27 : decode cX5_agreeAhead 27 = .ok (.iload_n 3, 1) := by decide +kernel
theorem dX5_agreeAhead_28 : decode cX5_agreeAhead 28 = .ok (.iaload, 1) := by decide +kernel
theorem dX5_agreeAhead_29 : decode cX5_agreeAhead 29 = .ok (.iload_n 2, 1) := by decide +kernel
theorem dX5_agreeAhead_30 : decode cX5_agreeAhead 30 = .ok (.invokestatic 291, 3) := by decide +kernel
theorem dX5_agreeAhead_33 : decode cX5_agreeAhead 33 = .ok (.if_icmp .ne 7, 3) := by decide +kernel
theorem dX5_agreeAhead_36 : decode cX5_agreeAhead 36 = .ok (.iconst 1, 1) := by decide +kernel
theorem dX5_agreeAhead_37 : decode cX5_agreeAhead 37 = .ok (.goto 4, 3) := by decide +kernel
theorem dX5_agreeAhead_40 : decode cX5_agreeAhead 40 = .ok (.iconst 0, 1) := by decide +kernel
theorem dX5_agreeAhead_41 : decode cX5_agreeAhead 41 = .ok (.ireturn, 1) := by decide +kernel
theorem dX5_tryDays_0 : decode cX5_tryDays 0 = .ok (.aload_n 0, 1) := by decide +kernel
theorem dX5_tryDays_1 : decode cX5_tryDays 1 = .ok (.getfield 42, 3) := by decide +kernel
theorem dX5_tryDays_4 : decode cX5_tryDays 4 = .ok (.aload_n 1, 1) := by decide +kernel
theorem dX5_tryDays_5 : decode cX5_tryDays 5 = .ok (.invokevirtual 205, 3) := by decide +kernel
theorem dX5_tryDays_8 : decode cX5_tryDays 8 = .ok (.iconst 0, 1) := by decide +kernel
theorem dX5_tryDays_9 : decode cX5_tryDays 9 = .ok (.istore 5, 2) := by decide +kernel
theorem dX5_tryDays_11 : decode cX5_tryDays 11 = .ok (.iload 5, 2) := by decide +kernel
theorem dX5_tryDays_13 : decode cX5_tryDays 13 = .ok (.iload_n 2, 1) := by decide +kernel
theorem dX5_tryDays_14 : decode cX5_tryDays 14 = .ok (.if_icmp .ge 46, 3) := by decide +kernel
theorem dX5_tryDays_17 : decode cX5_tryDays 17 = .ok (.iload 5, 2) := by decide +kernel
theorem dX5_tryDays_19 : decode cX5_tryDays 19 = .ok (.aload_n 0, 1) := by decide +kernel
theorem dX5_tryDays_20 : decode cX5_tryDays 20 = .ok (.getfield 36, 3) := by decide +kernel
theorem dX5_tryDays_23 : decode cX5_tryDays 23 = .ok (.arraylength, 1) := by decide +kernel
theorem dX5_tryDays_24 : decode cX5_tryDays 24 = .ok (.if_icmp .ge 36, 3) := by decide +kernel
theorem dX5_tryDays_27 : decode cX5_tryDays 27 = .ok (.aload_n 0, 1) := by decide +kernel
theorem dX5_tryDays_28 : decode cX5_tryDays 28 = .ok (.getfield 42, 3) := by decide +kernel
theorem dX5_tryDays_31 : decode cX5_tryDays 31 = .ok (.getfield 128, 3) := by decide +kernel
theorem dX5_tryDays_34 : decode cX5_tryDays 34 = .ok (.ifCond .le 26, 3) := by decide +kernel
theorem dX5_tryDays_37 : decode cX5_tryDays 37 = .ok (.aload_n 0, 1) := by decide +kernel
theorem dX5_tryDays_38 : decode cX5_tryDays 38 = .ok (.getfield 42, 3) := by decide +kernel
theorem dX5_tryDays_41 : decode cX5_tryDays 41 = .ok (.aload_n 0, 1) := by decide +kernel
theorem dX5_tryDays_42 : decode cX5_tryDays 42 = .ok (.getfield 36, 3) := by decide +kernel
theorem dX5_tryDays_45 : decode cX5_tryDays 45 = .ok (.iload 5, 2) := by decide +kernel
theorem dX5_tryDays_47 : decode cX5_tryDays 47 = .ok (.iaload, 1) := by decide +kernel
theorem dX5_tryDays_48 : decode cX5_tryDays 48 = .ok (.iload_n 3, 1) := by decide +kernel
theorem dX5_tryDays_49 : decode cX5_tryDays 49 = .ok (.iload 4, 2) := by decide +kernel
theorem dX5_tryDays_51 : decode cX5_tryDays 51 = .ok (.invokevirtual 277, 3) := by decide +kernel
theorem dX5_tryDays_54 : decode cX5_tryDays 54 = .ok (.iinc 5 1, 3) := by decide +kernel
theorem dX5_tryDays_57 : decode cX5_tryDays 57 = .ok (.goto (-46), 3) := by decide +kernel
theorem dX5_tryDays_60 : decode cX5_tryDays 60 = .ok (.return_, 1) := by decide +kernel
theorem dX5_daysToWell_0 : decode cX5_daysToWell 0 = .ok (.aload_n 0, 1) := by decide +kernel
theorem dX5_daysToWell_1 : decode cX5_daysToWell 1 = .ok (.getfield 42, 3) := by decide +kernel
theorem dX5_daysToWell_4 : decode cX5_daysToWell 4 = .ok (.aload_n 1, 1) := by decide +kernel
theorem dX5_daysToWell_5 : decode cX5_daysToWell 5 = .ok (.invokevirtual 205, 3) := by decide +kernel
theorem dX5_daysToWell_8 : decode cX5_daysToWell 8 = .ok (.aload_n 0, 1) := by decide +kernel
theorem dX5_daysToWell_9 : decode cX5_daysToWell 9 = .ok (.getfield 42, 3) := by decide +kernel
theorem dX5_daysToWell_12 : decode cX5_daysToWell 12 = .ok (.iload_n 2, 1) := by decide +kernel
theorem dX5_daysToWell_13 : decode cX5_daysToWell 13 = .ok (.putfield 131, 3) := by decide +kernel
theorem dX5_daysToWell_16 : decode cX5_daysToWell 16 = .ok (.iconst 0, 1) := by decide +kernel
theorem dX5_daysToWell_17 : decode cX5_daysToWell 17 = .ok (.istore_n 3, 1) := by decide +kernel
theorem dX5_daysToWell_18 : decode cX5_daysToWell 18 = .ok (.iload_n 3, 1) := by decide +kernel
theorem dX5_daysToWell_19 : decode cX5_daysToWell 19 = .ok (.aload_n 0, 1) := by decide +kernel
theorem dX5_daysToWell_20 : decode cX5_daysToWell 20 = .ok (.getfield 36, 3) := by decide +kernel
theorem dX5_daysToWell_23 : decode cX5_daysToWell 23 = .ok (.arraylength, 1) := by decide +kernel
theorem dX5_daysToWell_24 : decode cX5_daysToWell 24 = .ok (.if_icmp .ge 48, 3) := by decide +kernel
theorem dX5_daysToWell_27 : decode cX5_daysToWell 27 = .ok (.aload_n 0, 1) := by decide +kernel
theorem dX5_daysToWell_28 : decode cX5_daysToWell 28 = .ok (.getfield 42, 3) := by decide +kernel
theorem dX5_daysToWell_31 : decode cX5_daysToWell 31 = .ok (.getfield 128, 3) := by decide +kernel
theorem dX5_daysToWell_34 : decode cX5_daysToWell 34 = .ok (.ifCond .ne 5, 3) := by decide +kernel
theorem dX5_daysToWell_37 : decode cX5_daysToWell 37 = .ok (.iload_n 3, 1) := by decide +kernel
theorem dX5_daysToWell_38 : decode cX5_daysToWell 38 = .ok (.ireturn, 1) := by decide +kernel
theorem dX5_daysToWell_39 : decode cX5_daysToWell 39 = .ok (.aload_n 0, 1) := by decide +kernel
theorem dX5_daysToWell_40 : decode cX5_daysToWell 40 = .ok (.getfield 42, 3) := by decide +kernel
theorem dX5_daysToWell_43 : decode cX5_daysToWell 43 = .ok (.aload_n 0, 1) := by decide +kernel
theorem dX5_daysToWell_44 : decode cX5_daysToWell 44 = .ok (.getfield 36, 3) := by decide +kernel
theorem dX5_daysToWell_47 : decode cX5_daysToWell 47 = .ok (.iload_n 3, 1) := by decide +kernel
theorem dX5_daysToWell_48 : decode cX5_daysToWell 48 = .ok (.iaload, 1) := by decide +kernel
theorem dX5_daysToWell_49 : decode cX5_daysToWell 49 = .ok (.aload_n 0, 1) := by decide +kernel
theorem dX5_daysToWell_50 : decode cX5_daysToWell 50 = .ok (.getfield 12, 3) := by decide +kernel
theorem dX5_daysToWell_53 : decode cX5_daysToWell 53 = .ok (.getfield 111, 3) := by decide +kernel
theorem dX5_daysToWell_56 : decode cX5_daysToWell 56 = .ok (.aload_n 0, 1) := by decide +kernel
theorem dX5_daysToWell_57 : decode cX5_daysToWell 57 = .ok (.getfield 12, 3) := by decide +kernel
theorem dX5_daysToWell_60 : decode cX5_daysToWell 60 = .ok (.getfield 108, 3) := by decide +kernel
theorem dX5_daysToWell_63 : decode cX5_daysToWell 63 = .ok (.invokevirtual 277, 3) := by decide +kernel
theorem dX5_daysToWell_66 : decode cX5_daysToWell 66 = .ok (.iinc 3 1, 3) := by decide +kernel
theorem dX5_daysToWell_69 : decode cX5_daysToWell 69 = .ok (.goto (-51), 3) := by decide +kernel
theorem dX5_daysToWell_72 : decode cX5_daysToWell 72 = .ok (.aload_n 0, 1) := by decide +kernel
theorem dX5_daysToWell_73 : decode cX5_daysToWell 73 = .ok (.getfield 42, 3) := by decide +kernel
theorem dX5_daysToWell_76 : decode cX5_daysToWell 76 = .ok (.getfield 128, 3) := by decide +kernel
theorem dX5_daysToWell_79 : decode cX5_daysToWell 79 = .ok (.ifCond .ne 9, 3) := by decide +kernel
theorem dX5_daysToWell_82 : decode cX5_daysToWell 82 = .ok (.sipush 400, 3) := by decide +kernel
theorem dX5_daysToWell_85 : decode cX5_daysToWell 85 = .ok (.goto 6, 3) := by decide +kernel
theorem dX5_daysToWell_88 : decode cX5_daysToWell 88 = .ok (.sipush 401, 3) := by decide +kernel
theorem dX5_daysToWell_91 : decode cX5_daysToWell 91 = .ok (.ireturn, 1) := by decide +kernel
theorem dX5_illOfAllAhead_0 : decode cX5_illOfAllAhead 0 = .ok (.iconst 0, 1) := by decide +kernel
theorem dX5_illOfAllAhead_1 : decode cX5_illOfAllAhead 1 = .ok (.istore_n 3, 1) := by decide +kernel
theorem dX5_illOfAllAhead_2 : decode cX5_illOfAllAhead 2 = .ok (.iconst 0, 1) := by decide +kernel
theorem dX5_illOfAllAhead_3 : decode cX5_illOfAllAhead 3 = .ok (.istore 4, 2) := by decide +kernel
theorem dX5_illOfAllAhead_5 : decode cX5_illOfAllAhead 5 = .ok (.iload 4, 2) := by decide +kernel
theorem dX5_illOfAllAhead_7 : decode cX5_illOfAllAhead 7 = .ok (.aload_n 0, 1) := by decide +kernel
theorem dX5_illOfAllAhead_8 : decode cX5_illOfAllAhead 8 = .ok (.getfield 12, 3) := by decide +kernel
theorem dX5_illOfAllAhead_11 : decode cX5_illOfAllAhead 11 = .ok (.getfield 117, 3) := by decide +kernel
theorem dX5_illOfAllAhead_14 : decode cX5_illOfAllAhead 14 = .ok (.if_icmp .ge 50, 3) := by decide +kernel
theorem dX5_illOfAllAhead_17 : decode cX5_illOfAllAhead 17 = .ok (.aload_n 0, 1) := by decide +kernel
theorem dX5_illOfAllAhead_18 : decode cX5_illOfAllAhead 18 = .ok (.getfield 12, 3) := by decide +kernel
theorem dX5_illOfAllAhead_21 : decode cX5_illOfAllAhead 21 = .ok (.iload 4, 2) := by decide +kernel
theorem dX5_illOfAllAhead_23 : decode cX5_illOfAllAhead 23 = .ok (.invokevirtual 124, 3) := by decide +kernel
theorem dX5_illOfAllAhead_26 : decode cX5_illOfAllAhead 26 = .ok (.astore 5, 2) := by decide +kernel
theorem dX5_illOfAllAhead_28 : decode cX5_illOfAllAhead 28 = .ok (.aload 5, 2) := by decide +kernel
theorem dX5_illOfAllAhead_30 : decode cX5_illOfAllAhead 30 = .ok (.ifnull 28, 3) := by decide +kernel
theorem dX5_illOfAllAhead_33 : decode cX5_illOfAllAhead 33 = .ok (.aload_n 0, 1) := by decide +kernel
theorem dX5_illOfAllAhead_34 : decode cX5_illOfAllAhead 34 = .ok (.aload 5, 2) := by decide +kernel
theorem dX5_illOfAllAhead_36 : decode cX5_illOfAllAhead 36 = .ok (.iload_n 1, 1) := by decide +kernel
theorem dX5_illOfAllAhead_37 : decode cX5_illOfAllAhead 37 = .ok (.iload_n 2, 1) := by decide +kernel
theorem dX5_illOfAllAhead_38 : decode cX5_illOfAllAhead 38 = .ok (.aload_n 0, 1) := by decide +kernel
theorem dX5_illOfAllAhead_39 : decode cX5_illOfAllAhead 39 = .ok (.getfield 12, 3) := by decide +kernel
theorem dX5_illOfAllAhead_42 : decode cX5_illOfAllAhead 42 = .ok (.getfield 108, 3) := by decide +kernel
theorem dX5_illOfAllAhead_45 : decode cX5_illOfAllAhead 45 = .ok (.invokevirtual 179, 3) := by decide +kernel
theorem dX5_illOfAllAhead_48 : decode cX5_illOfAllAhead 48 = .ok (.iload_n 3, 1) := by decide +kernel
theorem dX5_illOfAllAhead_49 : decode cX5_illOfAllAhead 49 = .ok (.aload_n 0, 1) := by decide +kernel
theorem dX5_illOfAllAhead_50 : decode cX5_illOfAllAhead 50 = .ok (.getfield 42, 3) := by decide +kernel
theorem dX5_illOfAllAhead_53 : decode cX5_illOfAllAhead 53 = .ok (.getfield 128, 3) := by decide +kernel
theorem dX5_illOfAllAhead_56 : decode cX5_illOfAllAhead 56 = .ok (.iadd, 1) := by decide +kernel
theorem dX5_illOfAllAhead_57 : decode cX5_illOfAllAhead 57 = .ok (.istore_n 3, 1) := by decide +kernel
theorem dX5_illOfAllAhead_58 : decode cX5_illOfAllAhead 58 = .ok (.iinc 4 1, 3) := by decide +kernel
theorem dX5_illOfAllAhead_61 : decode cX5_illOfAllAhead 61 = .ok (.goto (-56), 3) := by decide +kernel
theorem dX5_illOfAllAhead_64 : decode cX5_illOfAllAhead 64 = .ok (.iload_n 3, 1) := by decide +kernel
theorem dX5_illOfAllAhead_65 : decode cX5_illOfAllAhead 65 = .ok (.ireturn, 1) := by decide +kernel
theorem dX5_wellAhead_0 : decode cX5_wellAhead 0 = .ok (.iconst 0, 1) := by decide +kernel
theorem dX5_wellAhead_1 : decode cX5_wellAhead 1 = .ok (.istore_n 3, 1) := by decide +kernel
theorem dX5_wellAhead_2 : decode cX5_wellAhead 2 = .ok (.iconst 0, 1) := by decide +kernel
theorem dX5_wellAhead_3 : decode cX5_wellAhead 3 = .ok (.istore 4, 2) := by decide +kernel
theorem dX5_wellAhead_5 : decode cX5_wellAhead 5 = .ok (.iload 4, 2) := by decide +kernel
theorem dX5_wellAhead_7 : decode cX5_wellAhead 7 = .ok (.aload_n 0, 1) := by decide +kernel
theorem dX5_wellAhead_8 : decode cX5_wellAhead 8 = .ok (.getfield 12, 3) := by decide +kernel
theorem dX5_wellAhead_11 : decode cX5_wellAhead 11 = .ok (.getfield 117, 3) := by decide +kernel
theorem dX5_wellAhead_14 : decode cX5_wellAhead 14 = .ok (.if_icmp .ge 58, 3) := by decide +kernel
theorem dX5_wellAhead_17 : decode cX5_wellAhead 17 = .ok (.aload_n 0, 1) := by decide +kernel
theorem dX5_wellAhead_18 : decode cX5_wellAhead 18 = .ok (.getfield 12, 3) := by decide +kernel
theorem dX5_wellAhead_21 : decode cX5_wellAhead 21 = .ok (.iload 4, 2) := by decide +kernel
theorem dX5_wellAhead_23 : decode cX5_wellAhead 23 = .ok (.invokevirtual 124, 3) := by decide +kernel
theorem dX5_wellAhead_26 : decode cX5_wellAhead 26 = .ok (.astore 5, 2) := by decide +kernel
theorem dX5_wellAhead_28 : decode cX5_wellAhead 28 = .ok (.aload 5, 2) := by decide +kernel
theorem dX5_wellAhead_30 : decode cX5_wellAhead 30 = .ok (.ifnull 36, 3) := by decide +kernel
theorem dX5_wellAhead_33 : decode cX5_wellAhead 33 = .ok (.aload_n 0, 1) := by decide +kernel
theorem dX5_wellAhead_34 : decode cX5_wellAhead 34 = .ok (.aload 5, 2) := by decide +kernel
theorem dX5_wellAhead_36 : decode cX5_wellAhead 36 = .ok (.iload_n 1, 1) := by decide +kernel
theorem dX5_wellAhead_37 : decode cX5_wellAhead 37 = .ok (.aload_n 0, 1) := by decide +kernel
theorem dX5_wellAhead_38 : decode cX5_wellAhead 38 = .ok (.getfield 12, 3) := by decide +kernel
theorem dX5_wellAhead_41 : decode cX5_wellAhead 41 = .ok (.getfield 111, 3) := by decide +kernel
theorem dX5_wellAhead_44 : decode cX5_wellAhead 44 = .ok (.iload_n 2, 1) := by decide +kernel
theorem dX5_wellAhead_45 : decode cX5_wellAhead 45 = .ok (.invokevirtual 179, 3) := by decide +kernel
theorem dX5_wellAhead_48 : decode cX5_wellAhead 48 = .ok (.iload_n 3, 1) := by decide +kernel
theorem dX5_wellAhead_49 : decode cX5_wellAhead 49 = .ok (.aload_n 0, 1) := by decide +kernel
theorem dX5_wellAhead_50 : decode cX5_wellAhead 50 = .ok (.getfield 42, 3) := by decide +kernel
theorem dX5_wellAhead_53 : decode cX5_wellAhead 53 = .ok (.getfield 128, 3) := by decide +kernel
theorem dX5_wellAhead_56 : decode cX5_wellAhead 56 = .ok (.ifCond .ne 7, 3) := by decide +kernel
theorem dX5_wellAhead_59 : decode cX5_wellAhead 59 = .ok (.iconst 1, 1) := by decide +kernel
theorem dX5_wellAhead_60 : decode cX5_wellAhead 60 = .ok (.goto 4, 3) := by decide +kernel
theorem dX5_wellAhead_63 : decode cX5_wellAhead 63 = .ok (.iconst 0, 1) := by decide +kernel
theorem dX5_wellAhead_64 : decode cX5_wellAhead 64 = .ok (.iadd, 1) := by decide +kernel
theorem dX5_wellAhead_65 : decode cX5_wellAhead 65 = .ok (.istore_n 3, 1) := by decide +kernel
theorem dX5_wellAhead_66 : decode cX5_wellAhead 66 = .ok (.iinc 4 1, 3) := by decide +kernel
theorem dX5_wellAhead_69 : decode cX5_wellAhead 69 = .ok (.goto (-64), 3) := by decide +kernel
theorem dX5_wellAhead_72 : decode cX5_wellAhead 72 = .ok (.iload_n 3, 1) := by decide +kernel
theorem dX5_wellAhead_73 : decode cX5_wellAhead 73 = .ok (.ireturn, 1) := by decide +kernel
theorem dX5_bestValue_0 : decode cX5_bestValue 0 = .ok (.aload_n 0, 1) := by decide +kernel
theorem dX5_bestValue_1 : decode cX5_bestValue 1 = .ok (.getfield 12, 3) := by decide +kernel
theorem dX5_bestValue_4 : decode cX5_bestValue 4 = .ok (.iload_n 1, 1) := by decide +kernel
theorem dX5_bestValue_5 : decode cX5_bestValue 5 = .ok (.invokevirtual 72, 3) := by decide +kernel
theorem dX5_bestValue_8 : decode cX5_bestValue 8 = .ok (.astore 5, 2) := by decide +kernel
theorem dX5_bestValue_10 : decode cX5_bestValue 10 = .ok (.aload 5, 2) := by decide +kernel
theorem dX5_bestValue_12 : decode cX5_bestValue 12 = .ok (.ifnull 13, 3) := by decide +kernel
theorem dX5_bestValue_15 : decode cX5_bestValue 15 = .ok (.iload_n 3, 1) := by decide +kernel
theorem dX5_bestValue_16 : decode cX5_bestValue 16 = .ok (.iconst 1, 1) := by decide +kernel
theorem dX5_bestValue_17 : decode cX5_bestValue 17 = .ok (.iload 4, 2) := by decide +kernel
theorem dX5_bestValue_19 : decode cX5_bestValue 19 = .ok (.invokestatic 92, 3) := by decide +kernel
theorem dX5_bestValue_22 : decode cX5_bestValue 22 = .ok (.ifCond .ne 10, 3) := by decide +kernel
theorem dX5_bestValue_25 : decode cX5_bestValue 25 = .ok (.aload_n 0, 1) := by decide +kernel
theorem dX5_bestValue_26 : decode cX5_bestValue 26 = .ok (.ldc 58, 2) := by decide +kernel
theorem dX5_bestValue_28 : decode cX5_bestValue 28 = .ok (.invokevirtual 59, 3) := by decide +kernel
theorem dX5_bestValue_31 : decode cX5_bestValue 31 = .ok (.ireturn, 1) := by decide +kernel
theorem dX5_bestValue_32 : decode cX5_bestValue 32 = .ok (.aload_n 0, 1) := by decide +kernel
theorem dX5_bestValue_33 : decode cX5_bestValue 33 = .ok (.getfield 12, 3) := by decide +kernel
theorem dX5_bestValue_36 : decode cX5_bestValue 36 = .ok (.aload_n 0, 1) := by decide +kernel
theorem dX5_bestValue_37 : decode cX5_bestValue 37 = .ok (.getfield 12, 3) := by decide +kernel
theorem dX5_bestValue_40 : decode cX5_bestValue 40 = .ok (.getfield 111, 3) := by decide +kernel
theorem dX5_bestValue_43 : decode cX5_bestValue 43 = .ok (.invokevirtual 72, 3) := by decide +kernel
theorem dX5_bestValue_46 : decode cX5_bestValue 46 = .ok (.ifnonnull 10, 3) := by decide +kernel
theorem dX5_bestValue_49 : decode cX5_bestValue 49 = .ok (.aload_n 0, 1) := by decide +kernel
theorem dX5_bestValue_50 : decode cX5_bestValue 50 = .ok (.ldc 141, 2) := by decide +kernel
theorem dX5_bestValue_52 : decode cX5_bestValue 52 = .ok (.invokevirtual 59, 3) := by decide +kernel
theorem dX5_bestValue_55 : decode cX5_bestValue 55 = .ok (.ireturn, 1) := by decide +kernel
theorem dX5_bestValue_56 : decode cX5_bestValue 56 = .ok (.iload_n 2, 1) := by decide +kernel
theorem dX5_bestValue_57 : decode cX5_bestValue 57 = .ok (.invokestatic 294, 3) := by decide +kernel
theorem dX5_bestValue_60 : decode cX5_bestValue 60 = .ok (.istore 6, 2) := by decide +kernel
theorem dX5_bestValue_62 : decode cX5_bestValue 62 = .ok (.iload_n 1, 1) := by decide +kernel
theorem dX5_bestValue_63 : decode cX5_bestValue 63 = .ok (.aload_n 0, 1) := by decide +kernel
theorem dX5_bestValue_64 : decode cX5_bestValue 64 = .ok (.getfield 12, 3) := by decide +kernel
theorem dX5_bestValue_67 : decode cX5_bestValue 67 = .ok (.getfield 111, 3) := by decide +kernel
theorem dX5_bestValue_70 : decode cX5_bestValue 70 = .ok (.if_icmp .ne 6, 3) := by decide +kernel
theorem dX5_bestValue_73 : decode cX5_bestValue 73 = .ok (.iload 6, 2) := by decide +kernel
theorem dX5_bestValue_75 : decode cX5_bestValue 75 = .ok (.ireturn, 1) := by decide +kernel
theorem dX5_bestValue_76 : decode cX5_bestValue 76 = .ok (.aload_n 0, 1) := by decide +kernel
theorem dX5_bestValue_77 : decode cX5_bestValue 77 = .ok (.iload_n 3, 1) := by decide +kernel
theorem dX5_bestValue_78 : decode cX5_bestValue 78 = .ok (.invokevirtual 176, 3) := by decide +kernel
theorem dX5_bestValue_81 : decode cX5_bestValue 81 = .ok (.aload_n 0, 1) := by decide +kernel
theorem dX5_bestValue_82 : decode cX5_bestValue 82 = .ok (.getfield 49, 3) := by decide +kernel
theorem dX5_bestValue_85 : decode cX5_bestValue 85 = .ok (.aload 5, 2) := by decide +kernel
theorem dX5_bestValue_87 : decode cX5_bestValue 87 = .ok (.invokevirtual 297, 3) := by decide +kernel
theorem dX5_bestValue_90 : decode cX5_bestValue 90 = .ok (.iconst (-1), 1) := by decide +kernel
theorem dX5_bestValue_91 : decode cX5_bestValue 91 = .ok (.istore 7, 2) := by decide +kernel
theorem dX5_bestValue_93 : decode cX5_bestValue 93 = .ok (.iload_n 2, 1) := by decide +kernel
theorem dX5_bestValue_94 : decode cX5_bestValue 94 = .ok (.invokestatic 300, 3) := by decide +kernel
theorem dX5_bestValue_97 : decode cX5_bestValue 97 = .ok (.istore 8, 2) := by decide +kernel
theorem dX5_bestValue_99 : decode cX5_bestValue 99 = .ok (.iload 6, 2) := by decide +kernel
theorem dX5_bestValue_101 : decode cX5_bestValue 101 = .ok (.istore 9, 2) := by decide +kernel
theorem dX5_bestValue_103 : decode cX5_bestValue 103 = .ok (.iload 9, 2) := by decide +kernel
theorem dX5_bestValue_105 : decode cX5_bestValue 105 = .ok (.iload 8, 2) := by decide +kernel
theorem dX5_bestValue_107 : decode cX5_bestValue 107 = .ok (.if_icmp .gt 42, 3) := by decide +kernel
theorem dX5_bestValue_110 : decode cX5_bestValue 110 = .ok (.aload_n 0, 1) := by decide +kernel
theorem dX5_bestValue_111 : decode cX5_bestValue 111 = .ok (.getfield 49, 3) := by decide +kernel
theorem dX5_bestValue_114 : decode cX5_bestValue 114 = .ok (.iload_n 2, 1) := by decide +kernel
theorem dX5_bestValue_115 : decode cX5_bestValue 115 = .ok (.iload 9, 2) := by decide +kernel
theorem dX5_bestValue_117 : decode cX5_bestValue 117 = .ok (.invokevirtual 83, 3) := by decide +kernel
theorem dX5_bestValue_120 : decode cX5_bestValue 120 = .ok (.pop, 1) := by decide +kernel
theorem dX5_bestValue_121 : decode cX5_bestValue 121 = .ok (.aload_n 0, 1) := by decide +kernel
theorem dX5_bestValue_122 : decode cX5_bestValue 122 = .ok (.iload_n 3, 1) := by decide +kernel
theorem dX5_bestValue_123 : decode cX5_bestValue 123 = .ok (.invokevirtual 303, 3) := by decide +kernel
theorem dX5_bestValue_126 : decode cX5_bestValue 126 = .ok (.istore 10, 2) := by decide +kernel
theorem dX5_bestValue_128 : decode cX5_bestValue 128 = .ok (.iload 10, 2) := by decide +kernel
theorem dX5_bestValue_130 : decode cX5_bestValue 130 = .ok (.iload 7, 2) := by decide +kernel
theorem dX5_bestValue_132 : decode cX5_bestValue 132 = .ok (.if_icmp .le 11, 3) := by decide +kernel
theorem dX5_bestValue_135 : decode cX5_bestValue 135 = .ok (.iload 10, 2) := by decide +kernel
theorem dX5_bestValue_137 : decode cX5_bestValue 137 = .ok (.istore 7, 2) := by decide +kernel
theorem dX5_bestValue_139 : decode cX5_bestValue 139 = .ok (.iload 9, 2) := by decide +kernel
theorem dX5_bestValue_141 : decode cX5_bestValue 141 = .ok (.istore 6, 2) := by decide +kernel
theorem dX5_bestValue_143 : decode cX5_bestValue 143 = .ok (.iinc 9 1, 3) := by decide +kernel
theorem dX5_bestValue_146 : decode cX5_bestValue 146 = .ok (.goto (-43), 3) := by decide +kernel
theorem dX5_bestValue_149 : decode cX5_bestValue 149 = .ok (.iload 6, 2) := by decide +kernel
theorem dX5_bestValue_151 : decode cX5_bestValue 151 = .ok (.ireturn, 1) := by decide +kernel
theorem dX5_agreementsOfTried_0 : decode cX5_agreementsOfTried 0 = .ok (.iconst 0, 1) := by decide +kernel
theorem dX5_agreementsOfTried_1 : decode cX5_agreementsOfTried 1 = .ok (.istore_n 2, 1) := by decide +kernel
theorem dX5_agreementsOfTried_2 : decode cX5_agreementsOfTried 2 = .ok (.iconst 0, 1) := by decide +kernel
theorem dX5_agreementsOfTried_3 : decode cX5_agreementsOfTried 3 = .ok (.istore_n 3, 1) := by decide +kernel
theorem dX5_agreementsOfTried_4 : decode cX5_agreementsOfTried 4 = .ok (.iload_n 3, 1) := by decide +kernel
theorem dX5_agreementsOfTried_5 : decode cX5_agreementsOfTried 5 = .ok (.iload_n 1, 1) := by decide +kernel
theorem dX5_agreementsOfTried_6 : decode cX5_agreementsOfTried 6 = .ok (.if_icmp .ge 56, 3) := by decide +kernel
theorem dX5_agreementsOfTried_9 : decode cX5_agreementsOfTried 9 = .ok (.iload_n 3, 1) := by decide +kernel
theorem dX5_agreementsOfTried_10 : decode cX5_agreementsOfTried 10 = .ok (.aload_n 0, 1) := by decide +kernel
theorem dX5_agreementsOfTried_11 : decode cX5_agreementsOfTried 11 = .ok (.getfield 36, 3) := by decide +kernel
theorem dX5_agreementsOfTried_14 : decode cX5_agreementsOfTried 14 = .ok (.arraylength, 1) := by decide +kernel
theorem dX5_agreementsOfTried_15 : decode cX5_agreementsOfTried 15 = .ok (.if_icmp .ge 47, 3) := by decide +kernel
theorem dX5_agreementsOfTried_18 : decode cX5_agreementsOfTried 18 = .ok (.aload_n 0, 1) := by decide +kernel
theorem dX5_agreementsOfTried_19 : decode cX5_agreementsOfTried 19 = .ok (.getfield 49, 3) := by decide +kernel
theorem dX5_agreementsOfTried_22 : decode cX5_agreementsOfTried 22 = .ok (.aload_n 0, 1) := by decide +kernel
theorem dX5_agreementsOfTried_23 : decode cX5_agreementsOfTried 23 = .ok (.getfield 12, 3) := by decide +kernel
theorem dX5_agreementsOfTried_26 : decode cX5_agreementsOfTried 26 = .ok (.getfield 146, 3) := by decide +kernel
theorem dX5_agreementsOfTried_29 : decode cX5_agreementsOfTried 29 = .ok (.iload_n 3, 1) := by decide +kernel
theorem dX5_agreementsOfTried_30 : decode cX5_agreementsOfTried 30 = .ok (.iadd, 1) := by decide +kernel
theorem dX5_agreementsOfTried_31 : decode cX5_agreementsOfTried 31 = .ok (.invokevirtual 102, 3) := by decide +kernel
theorem dX5_agreementsOfTried_34 : decode cX5_agreementsOfTried 34 = .ok (.aload_n 0, 1) := by decide +kernel
theorem dX5_agreementsOfTried_35 : decode cX5_agreementsOfTried 35 = .ok (.getfield 36, 3) := by decide +kernel
theorem dX5_agreementsOfTried_38 : decode cX5_agreementsOfTried 38 = .ok (.iload_n 3, 1) := by decide +kernel
theorem dX5_agreementsOfTried_39 : decode cX5_agreementsOfTried 39 = .ok (.iaload, 1) := by decide +kernel
theorem dX5_agreementsOfTried_40 : decode cX5_agreementsOfTried 40 = .ok (.aload_n 0, 1) := by decide +kernel
theorem dX5_agreementsOfTried_41 : decode cX5_agreementsOfTried 41 = .ok (.getfield 12, 3) := by decide +kernel
theorem dX5_agreementsOfTried_44 : decode cX5_agreementsOfTried 44 = .ok (.getfield 111, 3) := by decide +kernel
theorem dX5_agreementsOfTried_47 : decode cX5_agreementsOfTried 47 = .ok (.invokestatic 291, 3) := by decide +kernel
theorem dX5_agreementsOfTried_50 : decode cX5_agreementsOfTried 50 = .ok (.if_icmp .ne 6, 3) := by decide +kernel
theorem dX5_agreementsOfTried_53 : decode cX5_agreementsOfTried 53 = .ok (.iinc 2 1, 3) := by decide +kernel
theorem dX5_agreementsOfTried_56 : decode cX5_agreementsOfTried 56 = .ok (.iinc 3 1, 3) := by decide +kernel
theorem dX5_agreementsOfTried_59 : decode cX5_agreementsOfTried 59 = .ok (.goto (-55), 3) := by decide +kernel
theorem dX5_agreementsOfTried_62 : decode cX5_agreementsOfTried 62 = .ok (.iload_n 2, 1) := by decide +kernel
theorem dX5_agreementsOfTried_63 : decode cX5_agreementsOfTried 63 = .ok (.ireturn, 1) := by decide +kernel
theorem dX5_makesJustSo_0 : decode cX5_makesJustSo 0 = .ok (.aload_n 0, 1) := by decide +kernel
theorem dX5_makesJustSo_1 : decode cX5_makesJustSo 1 = .ok (.getfield 42, 3) := by decide +kernel
theorem dX5_makesJustSo_4 : decode cX5_makesJustSo 4 = .ok (.aload_n 2, 1) := by decide +kernel
theorem dX5_makesJustSo_5 : decode cX5_makesJustSo 5 = .ok (.invokevirtual 205, 3) := by decide +kernel
theorem dX5_makesJustSo_8 : decode cX5_makesJustSo 8 = .ok (.aload_n 0, 1) := by decide +kernel
theorem dX5_makesJustSo_9 : decode cX5_makesJustSo 9 = .ok (.getfield 42, 3) := by decide +kernel
theorem dX5_makesJustSo_12 : decode cX5_makesJustSo 12 = .ok (.iload 4, 2) := by decide +kernel
theorem dX5_makesJustSo_14 : decode cX5_makesJustSo 14 = .ok (.putfield 131, 3) := by decide +kernel
theorem dX5_makesJustSo_17 : decode cX5_makesJustSo 17 = .ok (.iconst 0, 1) := by decide +kernel
theorem dX5_makesJustSo_18 : decode cX5_makesJustSo 18 = .ok (.istore 5, 2) := by decide +kernel
theorem dX5_makesJustSo_20 : decode cX5_makesJustSo 20 = .ok (.iload 5, 2) := by decide +kernel
theorem dX5_makesJustSo_22 : decode cX5_makesJustSo 22 = .ok (.aload_n 1, 1) := by decide +kernel
theorem dX5_makesJustSo_23 : decode cX5_makesJustSo 23 = .ok (.getfield 243, 3) := by decide +kernel
theorem dX5_makesJustSo_26 : decode cX5_makesJustSo 26 = .ok (.if_icmp .ge 61, 3) := by decide +kernel
theorem dX5_makesJustSo_29 : decode cX5_makesJustSo 29 = .ok (.iload 5, 2) := by decide +kernel
theorem dX5_makesJustSo_31 : decode cX5_makesJustSo 31 = .ok (.aload_n 0, 1) := by decide +kernel
theorem dX5_makesJustSo_32 : decode cX5_makesJustSo 32 = .ok (.getfield 36, 3) := by decide +kernel
theorem dX5_makesJustSo_35 : decode cX5_makesJustSo 35 = .ok (.arraylength, 1) := by decide +kernel
theorem dX5_makesJustSo_36 : decode cX5_makesJustSo 36 = .ok (.if_icmp .ge 51, 3) := by decide +kernel
theorem dX5_makesJustSo_39 : decode cX5_makesJustSo 39 = .ok (.aload_n 1, 1) := by decide +kernel
theorem dX5_makesJustSo_40 : decode cX5_makesJustSo 40 = .ok (.iload 5, 2) := by decide +kernel
theorem dX5_makesJustSo_42 : decode cX5_makesJustSo 42 = .ok (.invokevirtual 251, 3) := by decide +kernel
theorem dX5_makesJustSo_45 : decode cX5_makesJustSo 45 = .ok (.aload_n 0, 1) := by decide +kernel
theorem dX5_makesJustSo_46 : decode cX5_makesJustSo 46 = .ok (.getfield 42, 3) := by decide +kernel
theorem dX5_makesJustSo_49 : decode cX5_makesJustSo 49 = .ok (.getfield 128, 3) := by decide +kernel
theorem dX5_makesJustSo_52 : decode cX5_makesJustSo 52 = .ok (.i2l, 1) := by decide +kernel
theorem dX5_makesJustSo_53 : decode cX5_makesJustSo 53 = .ok (.lcmp, 1) := by decide +kernel
theorem dX5_makesJustSo_54 : decode cX5_makesJustSo 54 = .ok (.ifCond .eq 5, 3) := by decide +kernel
theorem dX5_makesJustSo_57 : decode cX5_makesJustSo 57 = .ok (.iconst 0, 1) := by decide +kernel
theorem dX5_makesJustSo_58 : decode cX5_makesJustSo 58 = .ok (.ireturn, 1) := by decide +kernel
theorem dX5_makesJustSo_59 : decode cX5_makesJustSo 59 = .ok (.aload_n 0, 1) := by decide +kernel
theorem dX5_makesJustSo_60 : decode cX5_makesJustSo 60 = .ok (.getfield 42, 3) := by decide +kernel
theorem dX5_makesJustSo_63 : decode cX5_makesJustSo 63 = .ok (.aload_n 0, 1) := by decide +kernel
theorem dX5_makesJustSo_64 : decode cX5_makesJustSo 64 = .ok (.getfield 36, 3) := by decide +kernel
theorem dX5_makesJustSo_67 : decode cX5_makesJustSo 67 = .ok (.iload 5, 2) := by decide +kernel
theorem dX5_makesJustSo_69 : decode cX5_makesJustSo 69 = .ok (.iaload, 1) := by decide +kernel
theorem dX5_makesJustSo_70 : decode cX5_makesJustSo 70 = .ok (.iload_n 3, 1) := by decide +kernel
theorem dX5_makesJustSo_71 : decode cX5_makesJustSo 71 = .ok (.aload_n 0, 1) := by decide +kernel
theorem dX5_makesJustSo_72 : decode cX5_makesJustSo 72 = .ok (.getfield 12, 3) := by decide +kernel
theorem dX5_makesJustSo_75 : decode cX5_makesJustSo 75 = .ok (.getfield 108, 3) := by decide +kernel
theorem dX5_makesJustSo_78 : decode cX5_makesJustSo 78 = .ok (.invokevirtual 277, 3) := by decide +kernel
theorem dX5_makesJustSo_81 : decode cX5_makesJustSo 81 = .ok (.iinc 5 1, 3) := by decide +kernel
theorem dX5_makesJustSo_84 : decode cX5_makesJustSo 84 = .ok (.goto (-64), 3) := by decide +kernel
theorem dX5_makesJustSo_87 : decode cX5_makesJustSo 87 = .ok (.iconst 1, 1) := by decide +kernel
theorem dX5_makesJustSo_88 : decode cX5_makesJustSo 88 = .ok (.ireturn, 1) := by decide +kernel
theorem dX5_within_0 : decode cX5_within 0 = .ok (.iload_n 0, 1) := by decide +kernel
theorem dX5_within_1 : decode cX5_within 1 = .ok (.iload_n 1, 1) := by decide +kernel
theorem dX5_within_2 : decode cX5_within 2 = .ok (.if_icmp .lt 12, 3) := by decide +kernel
theorem dX5_within_5 : decode cX5_within 5 = .ok (.iload_n 0, 1) := by decide +kernel
theorem dX5_within_6 : decode cX5_within 6 = .ok (.iload_n 2, 1) := by decide +kernel
theorem dX5_within_7 : decode cX5_within 7 = .ok (.if_icmp .gt 7, 3) := by decide +kernel
theorem dX5_within_10 : decode cX5_within 10 = .ok (.iconst 1, 1) := by decide +kernel
theorem dX5_within_11 : decode cX5_within 11 = .ok (.goto 4, 3) := by decide +kernel
theorem dX5_within_14 : decode cX5_within 14 = .ok (.iconst 0, 1) := by decide +kernel
theorem dX5_within_15 : decode cX5_within 15 = .ok (.ireturn, 1) := by decide +kernel
theorem dX5_isIn_0 : decode cX5_isIn 0 = .ok (.iload_n 1, 1) := by decide +kernel
theorem dX5_isIn_1 : decode cX5_isIn 1 = .ok (.ifCond .lt 22, 3) := by decide +kernel
theorem dX5_isIn_4 : decode cX5_isIn 4 = .ok (.iload_n 1, 1) := by decide +kernel
theorem dX5_isIn_5 : decode cX5_isIn 5 = .ok (.bipush 6, 2) := by decide +kernel
theorem dX5_isIn_7 : decode cX5_isIn 7 = .ok (.if_icmp .ge 16, 3) := by decide +kernel
theorem dX5_isIn_10 : decode cX5_isIn 10 = .ok (.iload_n 0, 1) := by decide +kernel
theorem dX5_isIn_11 : decode cX5_isIn 11 = .ok (.iload_n 1, 1) := by decide +kernel
theorem dX5_isIn_12 : decode cX5_isIn 12 = .ok (.ishr, 1) := by decide +kernel
theorem dX5_isIn_13 : decode cX5_isIn 13 = .ok (.iconst 1, 1) := by decide +kernel
theorem dX5_isIn_14 : decode cX5_isIn 14 = .ok (.iand, 1) := by decide +kernel
theorem dX5_isIn_15 : decode cX5_isIn 15 = .ok (.iconst 1, 1) := by decide +kernel
theorem dX5_isIn_16 : decode cX5_isIn 16 = .ok (.if_icmp .ne 7, 3) := by decide +kernel
theorem dX5_isIn_19 : decode cX5_isIn 19 = .ok (.iconst 1, 1) := by decide +kernel
theorem dX5_isIn_20 : decode cX5_isIn 20 = .ok (.goto 4, 3) := by decide +kernel
theorem dX5_isIn_23 : decode cX5_isIn 23 = .ok (.iconst 0, 1) := by decide +kernel
theorem dX5_isIn_24 : decode cX5_isIn 24 = .ok (.ireturn, 1) := by decide +kernel
theorem dJ6_bitCount_0f7a4_0 : decode cJ6_bitCount_0f7a4 0 = .ok (.iload_n 0, 1) := by decide +kernel
theorem dJ6_bitCount_0f7a4_1 : decode cJ6_bitCount_0f7a4 1 = .ok (.iload_n 0, 1) := by decide +kernel
theorem dJ6_bitCount_0f7a4_2 : decode cJ6_bitCount_0f7a4 2 = .ok (.iconst 1, 1) := by decide +kernel
theorem dJ6_bitCount_0f7a4_3 : decode cJ6_bitCount_0f7a4 3 = .ok (.iushr, 1) := by decide +kernel
theorem dJ6_bitCount_0f7a4_4 : decode cJ6_bitCount_0f7a4 4 = .ok (.ldc_w 265, 3) := by decide +kernel
theorem dJ6_bitCount_0f7a4_7 : decode cJ6_bitCount_0f7a4 7 = .ok (.iand, 1) := by decide +kernel
theorem dJ6_bitCount_0f7a4_8 : decode cJ6_bitCount_0f7a4 8 = .ok (.isub, 1) := by decide +kernel
theorem dJ6_bitCount_0f7a4_9 : decode cJ6_bitCount_0f7a4 9 = .ok (.istore_n 0, 1) := by decide +kernel
theorem dJ6_bitCount_0f7a4_10 : decode cJ6_bitCount_0f7a4 10 = .ok (.iload_n 0, 1) := by decide +kernel
theorem dJ6_bitCount_0f7a4_11 : decode cJ6_bitCount_0f7a4 11 = .ok (.ldc_w 266, 3) := by decide +kernel
theorem dJ6_bitCount_0f7a4_14 : decode cJ6_bitCount_0f7a4 14 = .ok (.iand, 1) := by decide +kernel
theorem dJ6_bitCount_0f7a4_15 : decode cJ6_bitCount_0f7a4 15 = .ok (.iload_n 0, 1) := by decide +kernel
theorem dJ6_bitCount_0f7a4_16 : decode cJ6_bitCount_0f7a4 16 = .ok (.iconst 2, 1) := by decide +kernel
theorem dJ6_bitCount_0f7a4_17 : decode cJ6_bitCount_0f7a4 17 = .ok (.iushr, 1) := by decide +kernel
theorem dJ6_bitCount_0f7a4_18 : decode cJ6_bitCount_0f7a4 18 = .ok (.ldc_w 266, 3) := by decide +kernel
theorem dJ6_bitCount_0f7a4_21 : decode cJ6_bitCount_0f7a4 21 = .ok (.iand, 1) := by decide +kernel
theorem dJ6_bitCount_0f7a4_22 : decode cJ6_bitCount_0f7a4 22 = .ok (.iadd, 1) := by decide +kernel
theorem dJ6_bitCount_0f7a4_23 : decode cJ6_bitCount_0f7a4 23 = .ok (.istore_n 0, 1) := by decide +kernel
theorem dJ6_bitCount_0f7a4_24 : decode cJ6_bitCount_0f7a4 24 = .ok (.iload_n 0, 1) := by decide +kernel
theorem dJ6_bitCount_0f7a4_25 : decode cJ6_bitCount_0f7a4 25 = .ok (.iload_n 0, 1) := by decide +kernel
theorem dJ6_bitCount_0f7a4_26 : decode cJ6_bitCount_0f7a4 26 = .ok (.iconst 4, 1) := by decide +kernel
theorem dJ6_bitCount_0f7a4_27 : decode cJ6_bitCount_0f7a4 27 = .ok (.iushr, 1) := by decide +kernel
theorem dJ6_bitCount_0f7a4_28 : decode cJ6_bitCount_0f7a4 28 = .ok (.iadd, 1) := by decide +kernel
theorem dJ6_bitCount_0f7a4_29 : decode cJ6_bitCount_0f7a4 29 = .ok (.ldc_w 267, 3) := by decide +kernel
theorem dJ6_bitCount_0f7a4_32 : decode cJ6_bitCount_0f7a4 32 = .ok (.iand, 1) := by decide +kernel
theorem dJ6_bitCount_0f7a4_33 : decode cJ6_bitCount_0f7a4 33 = .ok (.istore_n 0, 1) := by decide +kernel
theorem dJ6_bitCount_0f7a4_34 : decode cJ6_bitCount_0f7a4 34 = .ok (.iload_n 0, 1) := by decide +kernel
theorem dJ6_bitCount_0f7a4_35 : decode cJ6_bitCount_0f7a4 35 = .ok (.iload_n 0, 1) := by decide +kernel
theorem dJ6_bitCount_0f7a4_36 : decode cJ6_bitCount_0f7a4 36 = .ok (.bipush 8, 2) := by decide +kernel
theorem dJ6_bitCount_0f7a4_38 : decode cJ6_bitCount_0f7a4 38 = .ok (.iushr, 1) := by decide +kernel
theorem dJ6_bitCount_0f7a4_39 : decode cJ6_bitCount_0f7a4 39 = .ok (.iadd, 1) := by decide +kernel
theorem dJ6_bitCount_0f7a4_40 : decode cJ6_bitCount_0f7a4 40 = .ok (.istore_n 0, 1) := by decide +kernel
theorem dJ6_bitCount_0f7a4_41 : decode cJ6_bitCount_0f7a4 41 = .ok (.iload_n 0, 1) := by decide +kernel
theorem dJ6_bitCount_0f7a4_42 : decode cJ6_bitCount_0f7a4 42 = .ok (.iload_n 0, 1) := by decide +kernel
theorem dJ6_bitCount_0f7a4_43 : decode cJ6_bitCount_0f7a4 43 = .ok (.bipush 16, 2) := by decide +kernel
theorem dJ6_bitCount_0f7a4_45 : decode cJ6_bitCount_0f7a4 45 = .ok (.iushr, 1) := by decide +kernel
theorem dJ6_bitCount_0f7a4_46 : decode cJ6_bitCount_0f7a4 46 = .ok (.iadd, 1) := by decide +kernel
theorem dJ6_bitCount_0f7a4_47 : decode cJ6_bitCount_0f7a4 47 = .ok (.istore_n 0, 1) := by decide +kernel
theorem dJ6_bitCount_0f7a4_48 : decode cJ6_bitCount_0f7a4 48 = .ok (.iload_n 0, 1) := by decide +kernel
theorem dJ6_bitCount_0f7a4_49 : decode cJ6_bitCount_0f7a4 49 = .ok (.bipush 63, 2) := by decide +kernel
theorem dJ6_bitCount_0f7a4_51 : decode cJ6_bitCount_0f7a4 51 = .ok (.iand, 1) := by decide +kernel
theorem dJ6_bitCount_0f7a4_52 : decode cJ6_bitCount_0f7a4 52 = .ok (.ireturn, 1) := by decide +kernel
theorem dJ9_max_7cf53_0 : decode cJ9_max_7cf53 0 = .ok (.iload_n 0, 1) := by decide +kernel
theorem dJ9_max_7cf53_1 : decode cJ9_max_7cf53 1 = .ok (.iload_n 1, 1) := by decide +kernel
theorem dJ9_max_7cf53_2 : decode cJ9_max_7cf53 2 = .ok (.if_icmp .lt 7, 3) := by decide +kernel
theorem dJ9_max_7cf53_5 : decode cJ9_max_7cf53 5 = .ok (.iload_n 0, 1) := by decide +kernel
theorem dJ9_max_7cf53_6 : decode cJ9_max_7cf53 6 = .ok (.goto 4, 3) := by decide +kernel
theorem dJ9_max_7cf53_9 : decode cJ9_max_7cf53 9 = .ok (.iload_n 1, 1) := by decide +kernel
theorem dJ9_max_7cf53_10 : decode cJ9_max_7cf53 10 = .ok (.ireturn, 1) := by decide +kernel
theorem dJ9_min_7cf53_0 : decode cJ9_min_7cf53 0 = .ok (.iload_n 0, 1) := by decide +kernel
theorem dJ9_min_7cf53_1 : decode cJ9_min_7cf53 1 = .ok (.iload_n 1, 1) := by decide +kernel
theorem dJ9_min_7cf53_2 : decode cJ9_min_7cf53 2 = .ok (.if_icmp .gt 7, 3) := by decide +kernel
theorem dJ9_min_7cf53_5 : decode cJ9_min_7cf53 5 = .ok (.iload_n 0, 1) := by decide +kernel
theorem dJ9_min_7cf53_6 : decode cJ9_min_7cf53 6 = .ok (.goto 4, 3) := by decide +kernel
theorem dJ9_min_7cf53_9 : decode cJ9_min_7cf53 9 = .ok (.iload_n 1, 1) := by decide +kernel
theorem dJ9_min_7cf53_10 : decode cJ9_min_7cf53 10 = .ok (.ireturn, 1) := by decide +kernel
theorem dJ0_length_8abf5_0 : decode cJ0_length_8abf5 0 = .ok (.aload_n 0, 1) := by decide +kernel
theorem dJ0_length_8abf5_1 : decode cJ0_length_8abf5 1 = .ok (.getfield 9, 3) := by decide +kernel
theorem dJ0_length_8abf5_4 : decode cJ0_length_8abf5 4 = .ok (.arraylength, 1) := by decide +kernel
theorem dJ0_length_8abf5_5 : decode cJ0_length_8abf5 5 = .ok (.aload_n 0, 1) := by decide +kernel
theorem dJ0_length_8abf5_6 : decode cJ0_length_8abf5 6 = .ok (.invokevirtual 335, 3) := by decide +kernel
theorem dJ0_length_8abf5_9 : decode cJ0_length_8abf5 9 = .ok (.ishr, 1) := by decide +kernel
theorem dJ0_length_8abf5_10 : decode cJ0_length_8abf5 10 = .ok (.ireturn, 1) := by decide +kernel
theorem dJ0_charAt_5068e_0 : decode cJ0_charAt_5068e 0 = .ok (.aload_n 0, 1) := by decide +kernel
theorem dJ0_charAt_5068e_1 : decode cJ0_charAt_5068e 1 = .ok (.invokevirtual 492, 3) := by decide +kernel
theorem dJ0_charAt_5068e_4 : decode cJ0_charAt_5068e 4 = .ok (.ifCond .eq 12, 3) := by decide +kernel
theorem dJ0_charAt_5068e_7 : decode cJ0_charAt_5068e 7 = .ok (.aload_n 0, 1) := by decide +kernel
theorem dJ0_charAt_5068e_8 : decode cJ0_charAt_5068e 8 = .ok (.getfield 9, 3) := by decide +kernel
theorem dJ0_charAt_5068e_11 : decode cJ0_charAt_5068e 11 = .ok (.iload_n 1, 1) := by decide +kernel
theorem dJ0_charAt_5068e_12 : decode cJ0_charAt_5068e 12 = .ok (.invokestatic 495, 3) := by decide +kernel
theorem dJ0_charAt_5068e_15 : decode cJ0_charAt_5068e 15 = .ok (.ireturn, 1) := by decide +kernel
theorem dJ0_charAt_5068e_16 : decode cJ0_charAt_5068e 16 = .ok (.aload_n 0, 1) := by decide +kernel
theorem dJ0_charAt_5068e_17 : decode cJ0_charAt_5068e 17 = .ok (.getfield 9, 3) := by decide +kernel
theorem dJ0_charAt_5068e_20 : decode cJ0_charAt_5068e 20 = .ok (.iload_n 1, 1) := by decide +kernel
theorem dJ0_charAt_5068e_21 : decode cJ0_charAt_5068e 21 = .ok (.invokestatic 498, 3) := by decide +kernel
theorem dJ0_charAt_5068e_24 : decode cJ0_charAt_5068e 24 = .ok (.ireturn, 1) := by decide +kernel
theorem dJ0_coder_7d493_0 : decode cJ0_coder_7d493 0 = .ok (.getstatic 38, 3) := by decide +kernel
theorem dJ0_coder_7d493_3 : decode cJ0_coder_7d493 3 = .ok (.ifCond .eq 10, 3) := by decide +kernel
theorem dJ0_coder_7d493_6 : decode cJ0_coder_7d493 6 = .ok (.aload_n 0, 1) := by decide +kernel
theorem dJ0_coder_7d493_7 : decode cJ0_coder_7d493 7 = .ok (.getfield 15, 3) := by decide +kernel
theorem dJ0_coder_7d493_10 : decode cJ0_coder_7d493 10 = .ok (.goto 4, 3) := by decide +kernel
theorem dJ0_coder_7d493_13 : decode cJ0_coder_7d493 13 = .ok (.iconst 1, 1) := by decide +kernel
theorem dJ0_coder_7d493_14 : decode cJ0_coder_7d493 14 = .ok (.ireturn, 1) := by decide +kernel
theorem dJ0_isLatin1_aae02_0 : decode cJ0_isLatin1_aae02 0 = .ok (.getstatic 38, 3) := by decide +kernel
theorem dJ0_isLatin1_aae02_3 : decode cJ0_isLatin1_aae02 3 = .ok (.ifCond .eq 14, 3) := by decide +kernel
theorem dJ0_isLatin1_aae02_6 : decode cJ0_isLatin1_aae02 6 = .ok (.aload_n 0, 1) := by decide +kernel
theorem dJ0_isLatin1_aae02_7 : decode cJ0_isLatin1_aae02 7 = .ok (.getfield 15, 3) := by decide +kernel
theorem dJ0_isLatin1_aae02_10 : decode cJ0_isLatin1_aae02 10 = .ok (.ifCond .ne 7, 3) := by decide +kernel
theorem dJ0_isLatin1_aae02_13 : decode cJ0_isLatin1_aae02 13 = .ok (.iconst 1, 1) := by decide +kernel
theorem dJ0_isLatin1_aae02_14 : decode cJ0_isLatin1_aae02 14 = .ok (.goto 4, 3) := by decide +kernel
theorem dJ0_isLatin1_aae02_17 : decode cJ0_isLatin1_aae02 17 = .ok (.iconst 0, 1) := by decide +kernel
theorem dJ0_isLatin1_aae02_18 : decode cJ0_isLatin1_aae02 18 = .ok (.ireturn, 1) := by decide +kernel
theorem dJ0_checkIndex_df160_0 : decode cJ0_checkIndex_df160 0 = .ok (.iload_n 0, 1) := by decide +kernel
theorem dJ0_checkIndex_df160_1 : decode cJ0_checkIndex_df160 1 = .ok (.iload_n 1, 1) := by decide +kernel
theorem dJ0_checkIndex_df160_2 : decode cJ0_checkIndex_df160 2 = .ok (.getstatic 1053, 3) := by decide +kernel
theorem dJ0_checkIndex_df160_5 : decode cJ0_checkIndex_df160 5 = .ok (.invokestatic 1059, 3) := by decide +kernel
theorem dJ0_checkIndex_df160_8 : decode cJ0_checkIndex_df160 8 = .ok (.pop, 1) := by decide +kernel
theorem dJ0_checkIndex_df160_9 : decode cJ0_checkIndex_df160 9 = .ok (.return_, 1) := by decide +kernel
theorem dJ1_charAt_3b067_0 : decode cJ1_charAt_3b067 0 = .ok (.iload_n 1, 1) := by decide +kernel
theorem dJ1_charAt_3b067_1 : decode cJ1_charAt_3b067 1 = .ok (.aload_n 0, 1) := by decide +kernel
theorem dJ1_charAt_3b067_2 : decode cJ1_charAt_3b067 2 = .ok (.arraylength, 1) := by decide +kernel
theorem dJ1_charAt_3b067_3 : decode cJ1_charAt_3b067 3 = .ok (.invokestatic 9, 3) := by decide +kernel
theorem dJ1_charAt_3b067_6 : decode cJ1_charAt_3b067 6 = .ok (.aload_n 0, 1) := by decide +kernel
theorem dJ1_charAt_3b067_7 : decode cJ1_charAt_3b067 7 = .ok (.iload_n 1, 1) := by decide +kernel
theorem dJ1_charAt_3b067_8 : decode cJ1_charAt_3b067 8 = .ok (.baload, 1) := by decide +kernel
theorem dJ1_charAt_3b067_9 : decode cJ1_charAt_3b067 9 = .ok (.sipush 255, 3) := by decide +kernel
theorem dJ1_charAt_3b067_12 : decode cJ1_charAt_3b067 12 = .ok (.iand, 1) := by decide +kernel
theorem dJ1_charAt_3b067_13 : decode cJ1_charAt_3b067 13 = .ok (.i2c, 1) := by decide +kernel
theorem dJ1_charAt_3b067_14 : decode cJ1_charAt_3b067 14 = .ok (.ireturn, 1) := by decide +kernel
theorem dJ2_getChar_3b067_0 : decode cJ2_getChar_3b067 0 = .ok (.getstatic 44, 3) := by decide +kernel
theorem dJ2_getChar_3b067_3 : decode cJ2_getChar_3b067 3 = .ok (.ifCond .ne 25, 3) := by decide +kernel
theorem dJ2_getChar_3b067_6 : decode cJ2_getChar_3b067 6 = .ok (.iload_n 1, 1) := by decide +kernel
theorem dJ2_getChar_3b067_7 : decode cJ2_getChar_3b067 7 = .ok (.ifCond .lt 11, 3) := by decide +kernel
theorem dJ2_getChar_3b067_10 : decode cJ2_getChar_3b067 10 = .ok (.iload_n 1, 1) := by decide +kernel
theorem dJ2_getChar_3b067_11 : decode cJ2_getChar_3b067 11 = .ok (.aload_n 0, 1) := by decide +kernel
theorem dJ2_getChar_3b067_12 : decode cJ2_getChar_3b067 12 = .ok (.invokestatic 48, 3) := by decide +kernel
theorem dJ2_getChar_3b067_15 : decode cJ2_getChar_3b067 15 = .ok (.if_icmp .lt 13, 3) := by decide +kernel
theorem dJ2_getChar_3b067_18 : decode cJ2_getChar_3b067 18 = .ok (.new 52, 3) := by decide +kernel
theorem dJ2_getChar_3b067_21 : decode cJ2_getChar_3b067 21 = .ok (.dup, 1) := by decide +kernel
theorem dJ2_getChar_3b067_22 : decode cJ2_getChar_3b067 22 = .ok (.ldc 54, 2) := by decide +kernel
theorem dJ2_getChar_3b067_24 : decode cJ2_getChar_3b067 24 = .ok (.invokespecial 56, 3) := by decide +kernel
theorem dJ2_getChar_3b067_27 : decode cJ2_getChar_3b067 27 = .ok (.athrow, 1) := by decide +kernel
theorem dJ2_getChar_3b067_28 : decode cJ2_getChar_3b067 28 = .ok (.iload_n 1, 1) := by decide +kernel
theorem dJ2_getChar_3b067_29 : decode cJ2_getChar_3b067 29 = .ok (.iconst 1, 1) := by decide +kernel
theorem dJ2_getChar_3b067_30 : decode cJ2_getChar_3b067 30 = .ok (.ishl, 1) := by decide +kernel
theorem dJ2_getChar_3b067_31 : decode cJ2_getChar_3b067 31 = .ok (.istore_n 1, 1) := by decide +kernel
theorem dJ2_getChar_3b067_32 : decode cJ2_getChar_3b067 32 = .ok (.aload_n 0, 1) := by decide +kernel
theorem dJ2_getChar_3b067_33 : decode cJ2_getChar_3b067 33 = .ok (.iload_n 1, 1) := by decide +kernel
theorem dJ2_getChar_3b067_34 : decode cJ2_getChar_3b067 34 = .ok (.iinc 1 1, 3) := by decide +kernel
theorem dJ2_getChar_3b067_37 : decode cJ2_getChar_3b067 37 = .ok (.baload, 1) := by decide +kernel
theorem dJ2_getChar_3b067_38 : decode cJ2_getChar_3b067 38 = .ok (.sipush 255, 3) := by decide +kernel
theorem dJ2_getChar_3b067_41 : decode cJ2_getChar_3b067 41 = .ok (.iand, 1) := by decide +kernel
theorem dJ2_getChar_3b067_42 : decode cJ2_getChar_3b067 42 = .ok (.getstatic 59, 3) := by decide +kernel
theorem dJ2_getChar_3b067_45 : decode cJ2_getChar_3b067 45 = .ok (.ishl, 1) := by decide +kernel
theorem dJ2_getChar_3b067_46 : decode cJ2_getChar_3b067 46 = .ok (.aload_n 0, 1) := by decide +kernel
theorem dJ2_getChar_3b067_47 : decode cJ2_getChar_3b067 47 = .ok (.iload_n 1, 1) := by decide +kernel
theorem dJ2_getChar_3b067_48 : decode cJ2_getChar_3b067 48 = .ok (.baload, 1) := by decide +kernel
theorem dJ2_getChar_3b067_49 : decode cJ2_getChar_3b067 49 = .ok (.sipush 255, 3) := by decide +kernel
theorem dJ2_getChar_3b067_52 : decode cJ2_getChar_3b067 52 = .ok (.iand, 1) := by decide +kernel
theorem dJ2_getChar_3b067_53 : decode cJ2_getChar_3b067 53 = .ok (.getstatic 63, 3) := by decide +kernel
theorem dJ2_getChar_3b067_56 : decode cJ2_getChar_3b067 56 = .ok (.ishl, 1) := by decide +kernel
theorem dJ2_getChar_3b067_57 : decode cJ2_getChar_3b067 57 = .ok (.ior, 1) := by decide +kernel
theorem dJ2_getChar_3b067_58 : decode cJ2_getChar_3b067 58 = .ok (.i2c, 1) := by decide +kernel
theorem dJ2_getChar_3b067_59 : decode cJ2_getChar_3b067 59 = .ok (.ireturn, 1) := by decide +kernel
theorem dJ2_length_9d52b_0 : decode cJ2_length_9d52b 0 = .ok (.aload_n 0, 1) := by decide +kernel
theorem dJ2_length_9d52b_1 : decode cJ2_length_9d52b 1 = .ok (.arraylength, 1) := by decide +kernel
theorem dJ2_length_9d52b_2 : decode cJ2_length_9d52b 2 = .ok (.iconst 1, 1) := by decide +kernel
theorem dJ2_length_9d52b_3 : decode cJ2_length_9d52b 3 = .ok (.ishr, 1) := by decide +kernel
theorem dJ2_length_9d52b_4 : decode cJ2_length_9d52b 4 = .ok (.ireturn, 1) := by decide +kernel
theorem dJ2_charAt_3b067_0 : decode cJ2_charAt_3b067 0 = .ok (.iload_n 1, 1) := by decide +kernel
theorem dJ2_charAt_3b067_1 : decode cJ2_charAt_3b067 1 = .ok (.aload_n 0, 1) := by decide +kernel
theorem dJ2_charAt_3b067_2 : decode cJ2_charAt_3b067 2 = .ok (.invokestatic 67, 3) := by decide +kernel
theorem dJ2_charAt_3b067_5 : decode cJ2_charAt_3b067 5 = .ok (.aload_n 0, 1) := by decide +kernel
theorem dJ2_charAt_3b067_6 : decode cJ2_charAt_3b067 6 = .ok (.iload_n 1, 1) := by decide +kernel
theorem dJ2_charAt_3b067_7 : decode cJ2_charAt_3b067 7 = .ok (.invokestatic 71, 3) := by decide +kernel
theorem dJ2_charAt_3b067_10 : decode cJ2_charAt_3b067 10 = .ok (.ireturn, 1) := by decide +kernel
theorem dJ2_checkIndex_2214a_0 : decode cJ2_checkIndex_2214a 0 = .ok (.iload_n 0, 1) := by decide +kernel
theorem dJ2_checkIndex_2214a_1 : decode cJ2_checkIndex_2214a 1 = .ok (.aload_n 1, 1) := by decide +kernel
theorem dJ2_checkIndex_2214a_2 : decode cJ2_checkIndex_2214a 2 = .ok (.invokestatic 48, 3) := by decide +kernel
theorem dJ2_checkIndex_2214a_5 : decode cJ2_checkIndex_2214a 5 = .ok (.invokestatic 414, 3) := by decide +kernel
theorem dJ2_checkIndex_2214a_8 : decode cJ2_checkIndex_2214a 8 = .ok (.return_, 1) := by decide +kernel
theorem dJ3_checkIndex_8e157_0 : decode cJ3_checkIndex_8e157 0 = .ok (.iload_n 0, 1) := by decide +kernel
theorem dJ3_checkIndex_8e157_1 : decode cJ3_checkIndex_8e157 1 = .ok (.ifCond .lt 8, 3) := by decide +kernel
theorem dJ3_checkIndex_8e157_4 : decode cJ3_checkIndex_8e157 4 = .ok (.iload_n 0, 1) := by decide +kernel
theorem dJ3_checkIndex_8e157_5 : decode cJ3_checkIndex_8e157 5 = .ok (.iload_n 1, 1) := by decide +kernel
theorem dJ3_checkIndex_8e157_6 : decode cJ3_checkIndex_8e157 6 = .ok (.if_icmp .lt 10, 3) := by decide +kernel
theorem dJ3_checkIndex_8e157_9 : decode cJ3_checkIndex_8e157 9 = .ok (.aload_n 2, 1) := by decide +kernel
theorem dJ3_checkIndex_8e157_10 : decode cJ3_checkIndex_8e157 10 = .ok (.iload_n 0, 1) := by decide +kernel
theorem dJ3_checkIndex_8e157_11 : decode cJ3_checkIndex_8e157 11 = .ok (.iload_n 1, 1) := by decide +kernel
theorem dJ3_checkIndex_8e157_12 : decode cJ3_checkIndex_8e157 12 = .ok (.invokestatic 95, 3) := by decide +kernel
theorem dJ3_checkIndex_8e157_15 : decode cJ3_checkIndex_8e157 15 = .ok (.athrow, 1) := by decide +kernel
theorem dJ3_checkIndex_8e157_16 : decode cJ3_checkIndex_8e157 16 = .ok (.iload_n 0, 1) := by decide +kernel
theorem dJ3_checkIndex_8e157_17 : decode cJ3_checkIndex_8e157 17 = .ok (.ireturn, 1) := by decide +kernel
