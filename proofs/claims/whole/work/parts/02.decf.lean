theorem dX10_isDeed_11 : decode cX10_isDeed 11 = .ok (.if_icmp .ge 7, 3) := by decide +kernel
theorem dX10_isDeed_14 : decode cX10_isDeed 14 = .ok (.iconst 1, 1) := by decide +kernel
theorem dX10_isDeed_15 : decode cX10_isDeed 15 = .ok (.goto 4, 3) := by decide +kernel
theorem dX10_isDeed_18 : decode cX10_isDeed 18 = .ok (.iconst 0, 1) := by decide +kernel
theorem dX10_isDeed_19 : decode cX10_isDeed 19 = .ok (.ireturn, 1) := by decide +kernel
theorem dX10_isThere_0 : decode cX10_isThere 0 = .ok (.aload_n 0, 1) := by decide +kernel
theorem dX10_isThere_1 : decode cX10_isThere 1 = .ok (.getfield 331, 3) := by decide +kernel
theorem dX10_isThere_4 : decode cX10_isThere 4 = .ok (.iconst 2, 1) := by decide +kernel
theorem dX10_isThere_5 : decode cX10_isThere 5 = .ok (.if_icmp .ne 11, 3) := by decide +kernel
theorem dX10_isThere_8 : decode cX10_isThere 8 = .ok (.iload_n 1, 1) := by decide +kernel
theorem dX10_isThere_9 : decode cX10_isThere 9 = .ok (.aload_n 0, 1) := by decide +kernel
theorem dX10_isThere_10 : decode cX10_isThere 10 = .ok (.getfield 111, 3) := by decide +kernel
theorem dX10_isThere_13 : decode cX10_isThere 13 = .ok (.if_icmp .eq 7, 3) := by decide +kernel
theorem dX10_isThere_16 : decode cX10_isThere 16 = .ok (.iconst 1, 1) := by decide +kernel
theorem dX10_isThere_17 : decode cX10_isThere 17 = .ok (.goto 4, 3) := by decide +kernel
theorem dX10_isThere_20 : decode cX10_isThere 20 = .ok (.iconst 0, 1) := by decide +kernel
theorem dX10_isThere_21 : decode cX10_isThere 21 = .ok (.ireturn, 1) := by decide +kernel
theorem dX10_hasBand_0 : decode cX10_hasBand 0 = .ok (.aload_n 0, 1) := by decide +kernel
theorem dX10_hasBand_1 : decode cX10_hasBand 1 = .ok (.getfield 331, 3) := by decide +kernel
theorem dX10_hasBand_4 : decode cX10_hasBand 4 = .ok (.iconst 3, 1) := by decide +kernel
theorem dX10_hasBand_5 : decode cX10_hasBand 5 = .ok (.if_icmp .eq 17, 3) := by decide +kernel
theorem dX10_hasBand_8 : decode cX10_hasBand 8 = .ok (.aload_n 0, 1) := by decide +kernel
theorem dX10_hasBand_9 : decode cX10_hasBand 9 = .ok (.getfield 96, 3) := by decide +kernel
theorem dX10_hasBand_12 : decode cX10_hasBand 12 = .ok (.iconst 5, 1) := by decide +kernel
theorem dX10_hasBand_13 : decode cX10_hasBand 13 = .ok (.iload_n 1, 1) := by decide +kernel
theorem dX10_hasBand_14 : decode cX10_hasBand 14 = .ok (.imul, 1) := by decide +kernel
theorem dX10_hasBand_15 : decode cX10_hasBand 15 = .ok (.iload_n 2, 1) := by decide +kernel
theorem dX10_hasBand_16 : decode cX10_hasBand 16 = .ok (.iadd, 1) := by decide +kernel
theorem dX10_hasBand_17 : decode cX10_hasBand 17 = .ok (.iaload, 1) := by decide +kernel
theorem dX10_hasBand_18 : decode cX10_hasBand 18 = .ok (.iconst 1, 1) := by decide +kernel
theorem dX10_hasBand_19 : decode cX10_hasBand 19 = .ok (.if_icmp .ne 7, 3) := by decide +kernel
theorem dX10_hasBand_22 : decode cX10_hasBand 22 = .ok (.iconst 1, 1) := by decide +kernel
theorem dX10_hasBand_23 : decode cX10_hasBand 23 = .ok (.goto 4, 3) := by decide +kernel
theorem dX10_hasBand_26 : decode cX10_hasBand 26 = .ok (.iconst 0, 1) := by decide +kernel
theorem dX10_hasBand_27 : decode cX10_hasBand 27 = .ok (.ireturn, 1) := by decide +kernel
theorem dX10_greatest_0 : decode cX10_greatest 0 = .ok (.iconst 0, 1) := by decide +kernel
theorem dX10_greatest_1 : decode cX10_greatest 1 = .ok (.istore_n 2, 1) := by decide +kernel
theorem dX10_greatest_2 : decode cX10_greatest 2 = .ok (.iconst 0, 1) := by decide +kernel
theorem dX10_greatest_3 : decode cX10_greatest 3 = .ok (.istore_n 3, 1) := by decide +kernel
theorem dX10_greatest_4 : decode cX10_greatest 4 = .ok (.iload_n 3, 1) := by decide +kernel
theorem dX10_greatest_5 : decode cX10_greatest 5 = .ok (.aload_n 0, 1) := by decide +kernel
theorem dX10_greatest_6 : decode cX10_greatest 6 = .ok (.getfield 13, 3) := by decide +kernel
theorem dX10_greatest_9 : decode cX10_greatest 9 = .ok (.iconst 0, 1) := by decide +kernel
theorem dX10_greatest_10 : decode cX10_greatest 10 = .ok (.iaload, 1) := by decide +kernel
theorem dX10_greatest_11 : decode cX10_greatest 11 = .ok (.if_icmp .ge 32, 3) := by decide +kernel
theorem dX10_greatest_14 : decode cX10_greatest 14 = .ok (.aload_n 0, 1) := by decide +kernel
theorem dX10_greatest_15 : decode cX10_greatest 15 = .ok (.iload_n 3, 1) := by decide +kernel
theorem dX10_greatest_16 : decode cX10_greatest 16 = .ok (.invokevirtual 334, 3) := by decide +kernel
theorem dX10_greatest_19 : decode cX10_greatest 19 = .ok (.ifCond .eq 18, 3) := by decide +kernel
theorem dX10_greatest_22 : decode cX10_greatest 22 = .ok (.iload_n 2, 1) := by decide +kernel
theorem dX10_greatest_23 : decode cX10_greatest 23 = .ok (.aload_n 0, 1) := by decide +kernel
theorem dX10_greatest_24 : decode cX10_greatest 24 = .ok (.getfield 87, 3) := by decide +kernel
theorem dX10_greatest_27 : decode cX10_greatest 27 = .ok (.iconst 5, 1) := by decide +kernel
theorem dX10_greatest_28 : decode cX10_greatest 28 = .ok (.iload_n 1, 1) := by decide +kernel
theorem dX10_greatest_29 : decode cX10_greatest 29 = .ok (.imul, 1) := by decide +kernel
theorem dX10_greatest_30 : decode cX10_greatest 30 = .ok (.iload_n 3, 1) := by decide +kernel
theorem dX10_greatest_31 : decode cX10_greatest 31 = .ok (.iadd, 1) := by decide +kernel
theorem dX10_greatest_32 : decode cX10_greatest 32 = .ok (.iaload, 1) := by decide +kernel
theorem dX10_greatest_33 : decode cX10_greatest 33 = .ok (.invokestatic 337, 3) := by decide +kernel
theorem dX10_greatest_36 : decode cX10_greatest 36 = .ok (.istore_n 2, 1) := by decide +kernel
theorem dX10_greatest_37 : decode cX10_greatest 37 = .ok (.iinc 3 1, 3) := by decide +kernel
theorem dX10_greatest_40 : decode cX10_greatest 40 = .ok (.goto (-36), 3) := by decide +kernel
theorem dX10_greatest_43 : decode cX10_greatest 43 = .ok (.iload_n 2, 1) := by decide +kernel
theorem dX10_greatest_44 : decode cX10_greatest 44 = .ok (.ireturn, 1) := by decide +kernel
theorem dX10_calls_0 : decode cX10_calls 0 = .ok (.iconst 5, 1) := by decide +kernel
theorem dX10_calls_1 : decode cX10_calls 1 = .ok (.iload_n 1, 1) := by decide +kernel
theorem dX10_calls_2 : decode cX10_calls 2 = .ok (.imul, 1) := by decide +kernel
theorem dX10_calls_3 : decode cX10_calls 3 = .ok (.iload_n 2, 1) := by decide +kernel
theorem dX10_calls_4 : decode cX10_calls 4 = .ok (.iadd, 1) := by decide +kernel
theorem dX10_calls_5 : decode cX10_calls 5 = .ok (.istore 4, 2) := by decide +kernel
theorem dX10_calls_7 : decode cX10_calls 7 = .ok (.aload_n 0, 1) := by decide +kernel
theorem dX10_calls_8 : decode cX10_calls 8 = .ok (.getfield 59, 3) := by decide +kernel
theorem dX10_calls_11 : decode cX10_calls 11 = .ok (.iconst 0, 1) := by decide +kernel
theorem dX10_calls_12 : decode cX10_calls 12 = .ok (.aload_n 0, 1) := by decide +kernel
theorem dX10_calls_13 : decode cX10_calls 13 = .ok (.getfield 78, 3) := by decide +kernel
theorem dX10_calls_16 : decode cX10_calls 16 = .ok (.iload 4, 2) := by decide +kernel
theorem dX10_calls_18 : decode cX10_calls 18 = .ok (.iaload, 1) := by decide +kernel
theorem dX10_calls_19 : decode cX10_calls 19 = .ok (.i2l, 1) := by decide +kernel
theorem dX10_calls_20 : decode cX10_calls 20 = .ok (.lastore, 1) := by decide +kernel
theorem dX10_calls_21 : decode cX10_calls 21 = .ok (.aload_n 0, 1) := by decide +kernel
theorem dX10_calls_22 : decode cX10_calls 22 = .ok (.getfield 59, 3) := by decide +kernel
theorem dX10_calls_25 : decode cX10_calls 25 = .ok (.iconst 1, 1) := by decide +kernel
theorem dX10_calls_26 : decode cX10_calls 26 = .ok (.aload_n 0, 1) := by decide +kernel
theorem dX10_calls_27 : decode cX10_calls 27 = .ok (.getfield 75, 3) := by decide +kernel
theorem dX10_calls_30 : decode cX10_calls 30 = .ok (.iload 4, 2) := by decide +kernel
theorem dX10_calls_32 : decode cX10_calls 32 = .ok (.iaload, 1) := by decide +kernel
theorem dX10_calls_33 : decode cX10_calls 33 = .ok (.i2l, 1) := by decide +kernel
theorem dX10_calls_34 : decode cX10_calls 34 = .ok (.lastore, 1) := by decide +kernel
theorem dX10_calls_35 : decode cX10_calls 35 = .ok (.aload_n 0, 1) := by decide +kernel
theorem dX10_calls_36 : decode cX10_calls 36 = .ok (.getfield 59, 3) := by decide +kernel
theorem dX10_calls_39 : decode cX10_calls 39 = .ok (.iconst 2, 1) := by decide +kernel
theorem dX10_calls_40 : decode cX10_calls 40 = .ok (.iload_n 3, 1) := by decide +kernel
theorem dX10_calls_41 : decode cX10_calls 41 = .ok (.i2l, 1) := by decide +kernel
theorem dX10_calls_42 : decode cX10_calls 42 = .ok (.lastore, 1) := by decide +kernel
theorem dX10_calls_43 : decode cX10_calls 43 = .ok (.aload_n 0, 1) := by decide +kernel
theorem dX10_calls_44 : decode cX10_calls 44 = .ok (.getfield 59, 3) := by decide +kernel
theorem dX10_calls_47 : decode cX10_calls 47 = .ok (.iconst 3, 1) := by decide +kernel
theorem dX10_calls_48 : decode cX10_calls 48 = .ok (.aload_n 0, 1) := by decide +kernel
theorem dX10_calls_49 : decode cX10_calls 49 = .ok (.getfield 81, 3) := by decide +kernel
theorem dX10_calls_52 : decode cX10_calls 52 = .ok (.iload 4, 2) := by decide +kernel
theorem dX10_calls_54 : decode cX10_calls 54 = .ok (.iaload, 1) := by decide +kernel
theorem dX10_calls_55 : decode cX10_calls 55 = .ok (.i2l, 1) := by decide +kernel
theorem dX10_calls_56 : decode cX10_calls 56 = .ok (.lastore, 1) := by decide +kernel
theorem dX10_calls_57 : decode cX10_calls 57 = .ok (.aload_n 0, 1) := by decide +kernel
theorem dX10_calls_58 : decode cX10_calls 58 = .ok (.getfield 59, 3) := by decide +kernel
theorem dX10_calls_61 : decode cX10_calls 61 = .ok (.iconst 4, 1) := by decide +kernel
theorem dX10_calls_62 : decode cX10_calls 62 = .ok (.iconst 0, 1) := by decide +kernel
theorem dX10_calls_63 : decode cX10_calls 63 = .ok (.aload_n 0, 1) := by decide +kernel
theorem dX10_calls_64 : decode cX10_calls 64 = .ok (.getfield 75, 3) := by decide +kernel
theorem dX10_calls_67 : decode cX10_calls 67 = .ok (.iload 4, 2) := by decide +kernel
theorem dX10_calls_69 : decode cX10_calls 69 = .ok (.iaload, 1) := by decide +kernel
theorem dX10_calls_70 : decode cX10_calls 70 = .ok (.iload_n 3, 1) := by decide +kernel
theorem dX10_calls_71 : decode cX10_calls 71 = .ok (.isub, 1) := by decide +kernel
theorem dX10_calls_72 : decode cX10_calls 72 = .ok (.invokestatic 337, 3) := by decide +kernel
theorem dX10_calls_75 : decode cX10_calls 75 = .ok (.i2l, 1) := by decide +kernel
theorem dX10_calls_76 : decode cX10_calls 76 = .ok (.lastore, 1) := by decide +kernel
theorem dX10_calls_77 : decode cX10_calls 77 = .ok (.aload_n 0, 1) := by decide +kernel
theorem dX10_calls_78 : decode cX10_calls 78 = .ok (.getfield 59, 3) := by decide +kernel
theorem dX10_calls_81 : decode cX10_calls 81 = .ok (.iconst 5, 1) := by decide +kernel
theorem dX10_calls_82 : decode cX10_calls 82 = .ok (.aload_n 0, 1) := by decide +kernel
theorem dX10_calls_83 : decode cX10_calls 83 = .ok (.iload_n 1, 1) := by decide +kernel
theorem dX10_calls_84 : decode cX10_calls 84 = .ok (.invokevirtual 340, 3) := by decide +kernel
theorem dX10_calls_87 : decode cX10_calls 87 = .ok (.aload_n 0, 1) := by decide +kernel
theorem dX10_calls_88 : decode cX10_calls 88 = .ok (.getfield 87, 3) := by decide +kernel
theorem dX10_calls_91 : decode cX10_calls 91 = .ok (.iload 4, 2) := by decide +kernel
theorem dX10_calls_93 : decode cX10_calls 93 = .ok (.iaload, 1) := by decide +kernel
theorem dX10_calls_94 : decode cX10_calls 94 = .ok (.isub, 1) := by decide +kernel
theorem dX10_calls_95 : decode cX10_calls 95 = .ok (.i2l, 1) := by decide +kernel
theorem dX10_calls_96 : decode cX10_calls 96 = .ok (.lastore, 1) := by decide +kernel
theorem dX10_calls_97 : decode cX10_calls 97 = .ok (.aload_n 0, 1) := by decide +kernel
theorem dX10_calls_98 : decode cX10_calls 98 = .ok (.getfield 59, 3) := by decide +kernel
theorem dX10_calls_101 : decode cX10_calls 101 = .ok (.bipush 6, 2) := by decide +kernel
theorem dX10_calls_103 : decode cX10_calls 103 = .ok (.aload_n 0, 1) := by decide +kernel
theorem dX10_calls_104 : decode cX10_calls 104 = .ok (.getfield 66, 3) := by decide +kernel
theorem dX10_calls_107 : decode cX10_calls 107 = .ok (.iload_n 1, 1) := by decide +kernel
theorem dX10_calls_108 : decode cX10_calls 108 = .ok (.iaload, 1) := by decide +kernel
theorem dX10_calls_109 : decode cX10_calls 109 = .ok (.i2l, 1) := by decide +kernel
theorem dX10_calls_110 : decode cX10_calls 110 = .ok (.lastore, 1) := by decide +kernel
theorem dX10_calls_111 : decode cX10_calls 111 = .ok (.return_, 1) := by decide +kernel
theorem dX10_within_0 : decode cX10_within 0 = .ok (.aload_n 0, 1) := by decide +kernel
theorem dX10_within_1 : decode cX10_within 1 = .ok (.iload_n 1, 1) := by decide +kernel
theorem dX10_within_2 : decode cX10_within 2 = .ok (.invokevirtual 343, 3) := by decide +kernel
theorem dX10_within_5 : decode cX10_within 5 = .ok (.ifCond .eq 11, 3) := by decide +kernel
theorem dX10_within_8 : decode cX10_within 8 = .ok (.aload_n 0, 1) := by decide +kernel
theorem dX10_within_9 : decode cX10_within 9 = .ok (.iload_n 1, 1) := by decide +kernel
theorem dX10_within_10 : decode cX10_within 10 = .ok (.invokevirtual 346, 3) := by decide +kernel
theorem dX10_within_13 : decode cX10_within 13 = .ok (.ifCond .ne 5, 3) := by decide +kernel
theorem dX10_within_16 : decode cX10_within 16 = .ok (.iload_n 3, 1) := by decide +kernel
theorem dX10_within_17 : decode cX10_within 17 = .ok (.ireturn, 1) := by decide +kernel
theorem dX10_within_18 : decode cX10_within 18 = .ok (.lconst 0, 1) := by decide +kernel
theorem dX10_within_19 : decode cX10_within 19 = .ok (.iload_n 2, 1) := by decide +kernel
theorem dX10_within_20 : decode cX10_within 20 = .ok (.i2l, 1) := by decide +kernel
theorem dX10_within_21 : decode cX10_within 21 = .ok (.aload_n 0, 1) := by decide +kernel
theorem dX10_within_22 : decode cX10_within 22 = .ok (.getfield 63, 3) := by decide +kernel
theorem dX10_within_25 : decode cX10_within 25 = .ok (.iconst 0, 1) := by decide +kernel
theorem dX10_within_26 : decode cX10_within 26 = .ok (.laload, 1) := by decide +kernel
theorem dX10_within_27 : decode cX10_within 27 = .ok (.invokestatic 349, 3) := by decide +kernel
theorem dX10_within_30 : decode cX10_within 30 = .ok (.invokestatic 353, 3) := by decide +kernel
theorem dX10_within_33 : decode cX10_within 33 = .ok (.l2i, 1) := by decide +kernel
theorem dX10_within_34 : decode cX10_within 34 = .ok (.ireturn, 1) := by decide +kernel
theorem dX10_deedSteps_0 : decode cX10_deedSteps 0 = .ok (.iconst 0, 1) := by decide +kernel
theorem dX10_deedSteps_1 : decode cX10_deedSteps 1 = .ok (.istore 4, 2) := by decide +kernel
theorem dX10_deedSteps_3 : decode cX10_deedSteps 3 = .ok (.iconst 0, 1) := by decide +kernel
theorem dX10_deedSteps_4 : decode cX10_deedSteps 4 = .ok (.istore 5, 2) := by decide +kernel
theorem dX10_deedSteps_6 : decode cX10_deedSteps 6 = .ok (.iload 5, 2) := by decide +kernel
theorem dX10_deedSteps_8 : decode cX10_deedSteps 8 = .ok (.aload_n 0, 1) := by decide +kernel
theorem dX10_deedSteps_9 : decode cX10_deedSteps 9 = .ok (.getfield 13, 3) := by decide +kernel
theorem dX10_deedSteps_12 : decode cX10_deedSteps 12 = .ok (.iconst 1, 1) := by decide +kernel
theorem dX10_deedSteps_13 : decode cX10_deedSteps 13 = .ok (.iaload, 1) := by decide +kernel
theorem dX10_deedSteps_14 : decode cX10_deedSteps 14 = .ok (.if_icmp .ge 44, 3) := by decide +kernel
theorem dX10_deedSteps_17 : decode cX10_deedSteps 17 = .ok (.aload_n 0, 1) := by decide +kernel
theorem dX10_deedSteps_18 : decode cX10_deedSteps 18 = .ok (.getfield 331, 3) := by decide +kernel
theorem dX10_deedSteps_21 : decode cX10_deedSteps 21 = .ok (.iconst 4, 1) := by decide +kernel
theorem dX10_deedSteps_22 : decode cX10_deedSteps 22 = .ok (.if_icmp .eq 36, 3) := by decide +kernel
theorem dX10_deedSteps_25 : decode cX10_deedSteps 25 = .ok (.iload 4, 2) := by decide +kernel
theorem dX10_deedSteps_27 : decode cX10_deedSteps 27 = .ok (.aload_n 0, 1) := by decide +kernel
theorem dX10_deedSteps_28 : decode cX10_deedSteps 28 = .ok (.getfield 108, 3) := by decide +kernel
theorem dX10_deedSteps_31 : decode cX10_deedSteps 31 = .ok (.bipush 30, 2) := by decide +kernel
theorem dX10_deedSteps_33 : decode cX10_deedSteps 33 = .ok (.iload_n 1, 1) := by decide +kernel
theorem dX10_deedSteps_34 : decode cX10_deedSteps 34 = .ok (.imul, 1) := by decide +kernel
theorem dX10_deedSteps_35 : decode cX10_deedSteps 35 = .ok (.bipush 6, 2) := by decide +kernel
theorem dX10_deedSteps_37 : decode cX10_deedSteps 37 = .ok (.iload_n 2, 1) := by decide +kernel
theorem dX10_deedSteps_38 : decode cX10_deedSteps 38 = .ok (.imul, 1) := by decide +kernel
theorem dX10_deedSteps_39 : decode cX10_deedSteps 39 = .ok (.iadd, 1) := by decide +kernel
theorem dX10_deedSteps_40 : decode cX10_deedSteps 40 = .ok (.iload 5, 2) := by decide +kernel
theorem dX10_deedSteps_42 : decode cX10_deedSteps 42 = .ok (.iadd, 1) := by decide +kernel
theorem dX10_deedSteps_43 : decode cX10_deedSteps 43 = .ok (.iaload, 1) := by decide +kernel
theorem dX10_deedSteps_44 : decode cX10_deedSteps 44 = .ok (.aload_n 3, 1) := by decide +kernel
theorem dX10_deedSteps_45 : decode cX10_deedSteps 45 = .ok (.iload 5, 2) := by decide +kernel
theorem dX10_deedSteps_47 : decode cX10_deedSteps 47 = .ok (.iaload, 1) := by decide +kernel
theorem dX10_deedSteps_48 : decode cX10_deedSteps 48 = .ok (.imul, 1) := by decide +kernel
theorem dX10_deedSteps_49 : decode cX10_deedSteps 49 = .ok (.iadd, 1) := by decide +kernel
theorem dX10_deedSteps_50 : decode cX10_deedSteps 50 = .ok (.istore 4, 2) := by decide +kernel
theorem dX10_deedSteps_52 : decode cX10_deedSteps 52 = .ok (.iinc 5 1, 3) := by decide +kernel
theorem dX10_deedSteps_55 : decode cX10_deedSteps 55 = .ok (.goto (-49), 3) := by decide +kernel
theorem dX10_deedSteps_58 : decode cX10_deedSteps 58 = .ok (.iload 4, 2) := by decide +kernel
theorem dX10_deedSteps_60 : decode cX10_deedSteps 60 = .ok (.ireturn, 1) := by decide +kernel
theorem dX10_walks_0 : decode cX10_walks 0 = .ok (.iconst 5, 1) := by decide +kernel
theorem dX10_walks_1 : decode cX10_walks 1 = .ok (.iload_n 1, 1) := by decide +kernel
theorem dX10_walks_2 : decode cX10_walks 2 = .ok (.imul, 1) := by decide +kernel
theorem dX10_walks_3 : decode cX10_walks 3 = .ok (.iload_n 2, 1) := by decide +kernel
theorem dX10_walks_4 : decode cX10_walks 4 = .ok (.iadd, 1) := by decide +kernel
theorem dX10_walks_5 : decode cX10_walks 5 = .ok (.istore 4, 2) := by decide +kernel
theorem dX10_walks_7 : decode cX10_walks 7 = .ok (.iload_n 3, 1) := by decide +kernel
theorem dX10_walks_8 : decode cX10_walks 8 = .ok (.ifCond .eq 15, 3) := by decide +kernel
theorem dX10_walks_11 : decode cX10_walks 11 = .ok (.aload_n 0, 1) := by decide +kernel
theorem dX10_walks_12 : decode cX10_walks 12 = .ok (.getfield 78, 3) := by decide +kernel
theorem dX10_walks_15 : decode cX10_walks 15 = .ok (.iload 4, 2) := by decide +kernel
theorem dX10_walks_17 : decode cX10_walks 17 = .ok (.iaload, 1) := by decide +kernel
theorem dX10_walks_18 : decode cX10_walks 18 = .ok (.iconst 2, 1) := by decide +kernel
theorem dX10_walks_19 : decode cX10_walks 19 = .ok (.idiv, 1) := by decide +kernel
theorem dX10_walks_20 : decode cX10_walks 20 = .ok (.goto 10, 3) := by decide +kernel
theorem dX10_walks_23 : decode cX10_walks 23 = .ok (.aload_n 0, 1) := by decide +kernel
theorem dX10_walks_24 : decode cX10_walks 24 = .ok (.getfield 78, 3) := by decide +kernel
theorem dX10_walks_27 : decode cX10_walks 27 = .ok (.iload 4, 2) := by decide +kernel
theorem dX10_walks_29 : decode cX10_walks 29 = .ok (.iaload, 1) := by decide +kernel
theorem dX10_walks_30 : decode cX10_walks 30 = .ok (.istore 5, 2) := by decide +kernel
theorem dX10_walks_32 : decode cX10_walks 32 = .ok (.iload 5, 2) := by decide +kernel
theorem dX10_walks_34 : decode cX10_walks 34 = .ok (.aload_n 0, 1) := by decide +kernel
theorem dX10_walks_35 : decode cX10_walks 35 = .ok (.iload_n 1, 1) := by decide +kernel
theorem dX10_walks_36 : decode cX10_walks 36 = .ok (.iload_n 2, 1) := by decide +kernel
theorem dX10_walks_37 : decode cX10_walks 37 = .ok (.aload_n 0, 1) := by decide +kernel
theorem dX10_walks_38 : decode cX10_walks 38 = .ok (.getfield 31, 3) := by decide +kernel
theorem dX10_walks_41 : decode cX10_walks 41 = .ok (.invokevirtual 355, 3) := by decide +kernel
theorem dX10_walks_44 : decode cX10_walks 44 = .ok (.iadd, 1) := by decide +kernel
theorem dX10_walks_45 : decode cX10_walks 45 = .ok (.istore 6, 2) := by decide +kernel
theorem dX10_walks_47 : decode cX10_walks 47 = .ok (.aload_n 0, 1) := by decide +kernel
theorem dX10_walks_48 : decode cX10_walks 48 = .ok (.getfield 99, 3) := by decide +kernel
theorem dX10_walks_51 : decode cX10_walks 51 = .ok (.iload 4, 2) := by decide +kernel
theorem dX10_walks_53 : decode cX10_walks 53 = .ok (.iaload, 1) := by decide +kernel
theorem dX10_walks_54 : decode cX10_walks 54 = .ok (.aload_n 0, 1) := by decide +kernel
theorem dX10_walks_55 : decode cX10_walks 55 = .ok (.iload_n 1, 1) := by decide +kernel
theorem dX10_walks_56 : decode cX10_walks 56 = .ok (.iload_n 2, 1) := by decide +kernel
theorem dX10_walks_57 : decode cX10_walks 57 = .ok (.invokevirtual 359, 3) := by decide +kernel
theorem dX10_walks_60 : decode cX10_walks 60 = .ok (.ifCond .eq 19, 3) := by decide +kernel
theorem dX10_walks_63 : decode cX10_walks 63 = .ok (.iload 5, 2) := by decide +kernel
theorem dX10_walks_65 : decode cX10_walks 65 = .ok (.aload_n 0, 1) := by decide +kernel
theorem dX10_walks_66 : decode cX10_walks 66 = .ok (.iload_n 1, 1) := by decide +kernel
theorem dX10_walks_67 : decode cX10_walks 67 = .ok (.iload_n 2, 1) := by decide +kernel
theorem dX10_walks_68 : decode cX10_walks 68 = .ok (.aload_n 0, 1) := by decide +kernel
theorem dX10_walks_69 : decode cX10_walks 69 = .ok (.getfield 34, 3) := by decide +kernel
theorem dX10_walks_72 : decode cX10_walks 72 = .ok (.invokevirtual 355, 3) := by decide +kernel
theorem dX10_walks_75 : decode cX10_walks 75 = .ok (.iadd, 1) := by decide +kernel
theorem dX10_walks_76 : decode cX10_walks 76 = .ok (.goto 4, 3) := by decide +kernel
theorem dX10_walks_79 : decode cX10_walks 79 = .ok (.iconst 0, 1) := by decide +kernel
theorem dX10_walks_80 : decode cX10_walks 80 = .ok (.iadd, 1) := by decide +kernel
theorem dX10_walks_81 : decode cX10_walks 81 = .ok (.istore 7, 2) := by decide +kernel
theorem dX10_walks_83 : decode cX10_walks 83 = .ok (.iload 7, 2) := by decide +kernel
theorem dX10_walks_85 : decode cX10_walks 85 = .ok (.aload_n 0, 1) := by decide +kernel
theorem dX10_walks_86 : decode cX10_walks 86 = .ok (.getfield 75, 3) := by decide +kernel
theorem dX10_walks_89 : decode cX10_walks 89 = .ok (.iload 4, 2) := by decide +kernel
theorem dX10_walks_91 : decode cX10_walks 91 = .ok (.iaload, 1) := by decide +kernel
theorem dX10_walks_92 : decode cX10_walks 92 = .ok (.if_icmp .ge 74, 3) := by decide +kernel
theorem dX10_walks_95 : decode cX10_walks 95 = .ok (.aload_n 0, 1) := by decide +kernel
theorem dX10_walks_96 : decode cX10_walks 96 = .ok (.iload_n 1, 1) := by decide +kernel
theorem dX10_walks_97 : decode cX10_walks 97 = .ok (.iload_n 2, 1) := by decide +kernel
theorem dX10_walks_98 : decode cX10_walks 98 = .ok (.invokevirtual 359, 3) := by decide +kernel
theorem dX10_walks_101 : decode cX10_walks 101 = .ok (.ifCond .eq 65, 3) := by decide +kernel
theorem dX10_walks_104 : decode cX10_walks 104 = .ok (.aload_n 0, 1) := by decide +kernel
theorem dX10_walks_105 : decode cX10_walks 105 = .ok (.getfield 331, 3) := by decide +kernel
theorem dX10_walks_108 : decode cX10_walks 108 = .ok (.iconst 5, 1) := by decide +kernel
theorem dX10_walks_109 : decode cX10_walks 109 = .ok (.if_icmp .eq 57, 3) := by decide +kernel
theorem dX10_walks_112 : decode cX10_walks 112 = .ok (.aload_n 0, 1) := by decide +kernel
theorem dX10_walks_113 : decode cX10_walks 113 = .ok (.iload_n 1, 1) := by decide +kernel
theorem dX10_walks_114 : decode cX10_walks 114 = .ok (.iload_n 2, 1) := by decide +kernel
theorem dX10_walks_115 : decode cX10_walks 115 = .ok (.iload 7, 2) := by decide +kernel
theorem dX10_walks_117 : decode cX10_walks 117 = .ok (.invokevirtual 363, 3) := by decide +kernel
theorem dX10_walks_120 : decode cX10_walks 120 = .ok (.aload_n 0, 1) := by decide +kernel
theorem dX10_walks_121 : decode cX10_walks 121 = .ok (.getfield 75, 3) := by decide +kernel
theorem dX10_walks_124 : decode cX10_walks 124 = .ok (.iload 4, 2) := by decide +kernel
theorem dX10_walks_126 : decode cX10_walks 126 = .ok (.iaload, 1) := by decide +kernel
theorem dX10_walks_127 : decode cX10_walks 127 = .ok (.iload 7, 2) := by decide +kernel
theorem dX10_walks_129 : decode cX10_walks 129 = .ok (.isub, 1) := by decide +kernel
theorem dX10_walks_130 : decode cX10_walks 130 = .ok (.istore 8, 2) := by decide +kernel
theorem dX10_walks_132 : decode cX10_walks 132 = .ok (.iload 8, 2) := by decide +kernel
theorem dX10_walks_134 : decode cX10_walks 134 = .ok (.aload_n 0, 1) := by decide +kernel
theorem dX10_walks_135 : decode cX10_walks 135 = .ok (.iconst 0, 1) := by decide +kernel
theorem dX10_walks_136 : decode cX10_walks 136 = .ok (.bipush 99, 2) := by decide +kernel
theorem dX10_walks_138 : decode cX10_walks 138 = .ok (.aload_n 0, 1) := by decide +kernel
theorem dX10_walks_139 : decode cX10_walks 139 = .ok (.getfield 25, 3) := by decide +kernel
theorem dX10_walks_142 : decode cX10_walks 142 = .ok (.iload_n 2, 1) := by decide +kernel
theorem dX10_walks_143 : decode cX10_walks 143 = .ok (.iaload, 1) := by decide +kernel
theorem dX10_walks_144 : decode cX10_walks 144 = .ok (.invokevirtual 367, 3) := by decide +kernel
theorem dX10_walks_147 : decode cX10_walks 147 = .ok (.if_icmp .gt 19, 3) := by decide +kernel
theorem dX10_walks_150 : decode cX10_walks 150 = .ok (.iload 6, 2) := by decide +kernel
theorem dX10_walks_152 : decode cX10_walks 152 = .ok (.iload 8, 2) := by decide +kernel
theorem dX10_walks_154 : decode cX10_walks 154 = .ok (.iadd, 1) := by decide +kernel
theorem dX10_walks_155 : decode cX10_walks 155 = .ok (.istore 6, 2) := by decide +kernel
theorem dX10_walks_157 : decode cX10_walks 157 = .ok (.aload_n 0, 1) := by decide +kernel
theorem dX10_walks_158 : decode cX10_walks 158 = .ok (.getfield 75, 3) := by decide +kernel
theorem dX10_walks_161 : decode cX10_walks 161 = .ok (.iload 4, 2) := by decide +kernel
theorem dX10_walks_163 : decode cX10_walks 163 = .ok (.iaload, 1) := by decide +kernel
theorem dX10_walks_164 : decode cX10_walks 164 = .ok (.istore 7, 2) := by decide +kernel
theorem dX10_walks_166 : decode cX10_walks 166 = .ok (.aload_n 0, 1) := by decide +kernel
theorem dX10_walks_167 : decode cX10_walks 167 = .ok (.getfield 90, 3) := by decide +kernel
theorem dX10_walks_170 : decode cX10_walks 170 = .ok (.iload 4, 2) := by decide +kernel
theorem dX10_walks_172 : decode cX10_walks 172 = .ok (.dup2, 1) := by decide +kernel
theorem dX10_walks_173 : decode cX10_walks 173 = .ok (.iaload, 1) := by decide +kernel
theorem dX10_walks_174 : decode cX10_walks 174 = .ok (.iload 6, 2) := by decide +kernel
theorem dX10_walks_176 : decode cX10_walks 176 = .ok (.iadd, 1) := by decide +kernel
theorem dX10_walks_177 : decode cX10_walks 177 = .ok (.iastore, 1) := by decide +kernel
theorem dX10_walks_178 : decode cX10_walks 178 = .ok (.aload_n 0, 1) := by decide +kernel
theorem dX10_walks_179 : decode cX10_walks 179 = .ok (.getfield 93, 3) := by decide +kernel
theorem dX10_walks_182 : decode cX10_walks 182 = .ok (.iload 4, 2) := by decide +kernel
theorem dX10_walks_184 : decode cX10_walks 184 = .ok (.dup2, 1) := by decide +kernel
theorem dX10_walks_185 : decode cX10_walks 185 = .ok (.iaload, 1) := by decide +kernel
theorem dX10_walks_186 : decode cX10_walks 186 = .ok (.iload 7, 2) := by decide +kernel
theorem dX10_walks_188 : decode cX10_walks 188 = .ok (.iadd, 1) := by decide +kernel
theorem dX10_walks_189 : decode cX10_walks 189 = .ok (.iastore, 1) := by decide +kernel
theorem dX10_walks_190 : decode cX10_walks 190 = .ok (.aload_n 0, 1) := by decide +kernel
theorem dX10_walks_191 : decode cX10_walks 191 = .ok (.getfield 81, 3) := by decide +kernel
theorem dX10_walks_194 : decode cX10_walks 194 = .ok (.iload 4, 2) := by decide +kernel
theorem dX10_walks_196 : decode cX10_walks 196 = .ok (.iaload, 1) := by decide +kernel
theorem dX10_walks_197 : decode cX10_walks 197 = .ok (.istore 8, 2) := by decide +kernel
theorem dX10_walks_199 : decode cX10_walks 199 = .ok (.iload 7, 2) := by decide +kernel
theorem dX10_walks_201 : decode cX10_walks 201 = .ok (.aload_n 0, 1) := by decide +kernel
theorem dX10_walks_202 : decode cX10_walks 202 = .ok (.getfield 75, 3) := by decide +kernel
theorem dX10_walks_205 : decode cX10_walks 205 = .ok (.iload 4, 2) := by decide +kernel
theorem dX10_walks_207 : decode cX10_walks 207 = .ok (.iaload, 1) := by decide +kernel
theorem dX10_walks_208 : decode cX10_walks 208 = .ok (.if_icmp .lt 7, 3) := by decide +kernel
theorem dX10_walks_211 : decode cX10_walks 211 = .ok (.iconst 1, 1) := by decide +kernel
theorem dX10_walks_212 : decode cX10_walks 212 = .ok (.goto 4, 3) := by decide +kernel
theorem dX10_walks_215 : decode cX10_walks 215 = .ok (.iconst 0, 1) := by decide +kernel
theorem dX10_walks_216 : decode cX10_walks 216 = .ok (.istore 9, 2) := by decide +kernel
theorem dX10_walks_218 : decode cX10_walks 218 = .ok (.aload_n 0, 1) := by decide +kernel
theorem dX10_walks_219 : decode cX10_walks 219 = .ok (.getfield 81, 3) := by decide +kernel
theorem dX10_walks_222 : decode cX10_walks 222 = .ok (.iload 4, 2) := by decide +kernel
theorem dX10_walks_224 : decode cX10_walks 224 = .ok (.iload 9, 2) := by decide +kernel
theorem dX10_walks_226 : decode cX10_walks 226 = .ok (.ifCond .eq 10, 3) := by decide +kernel
theorem dX10_walks_229 : decode cX10_walks 229 = .ok (.iload 8, 2) := by decide +kernel
theorem dX10_walks_231 : decode cX10_walks 231 = .ok (.iconst 1, 1) := by decide +kernel
theorem dX10_walks_232 : decode cX10_walks 232 = .ok (.iadd, 1) := by decide +kernel
theorem dX10_walks_233 : decode cX10_walks 233 = .ok (.goto 4, 3) := by decide +kernel
theorem dX10_walks_236 : decode cX10_walks 236 = .ok (.iconst 0, 1) := by decide +kernel
theorem dX10_walks_237 : decode cX10_walks 237 = .ok (.iastore, 1) := by decide +kernel
theorem dX10_walks_238 : decode cX10_walks 238 = .ok (.iload 9, 2) := by decide +kernel
theorem dX10_walks_240 : decode cX10_walks 240 = .ok (.ifCond .ne 19, 3) := by decide +kernel
theorem dX10_walks_243 : decode cX10_walks 243 = .ok (.iload 8, 2) := by decide +kernel
theorem dX10_walks_245 : decode cX10_walks 245 = .ok (.ifCond .le 14, 3) := by decide +kernel
theorem dX10_walks_248 : decode cX10_walks 248 = .ok (.aload_n 0, 1) := by decide +kernel
theorem dX10_walks_249 : decode cX10_walks 249 = .ok (.getfield 84, 3) := by decide +kernel
theorem dX10_walks_252 : decode cX10_walks 252 = .ok (.iload 4, 2) := by decide +kernel
theorem dX10_walks_254 : decode cX10_walks 254 = .ok (.dup2, 1) := by decide +kernel
theorem dX10_walks_255 : decode cX10_walks 255 = .ok (.iaload, 1) := by decide +kernel
theorem dX10_walks_256 : decode cX10_walks 256 = .ok (.iconst 1, 1) := by decide +kernel
theorem dX10_walks_257 : decode cX10_walks 257 = .ok (.iadd, 1) := by decide +kernel
theorem dX10_walks_258 : decode cX10_walks 258 = .ok (.iastore, 1) := by decide +kernel
theorem dX10_walks_259 : decode cX10_walks 259 = .ok (.iload 7, 2) := by decide +kernel
theorem dX10_walks_261 : decode cX10_walks 261 = .ok (.aload_n 0, 1) := by decide +kernel
theorem dX10_walks_262 : decode cX10_walks 262 = .ok (.getfield 13, 3) := by decide +kernel
theorem dX10_walks_265 : decode cX10_walks 265 = .ok (.bipush 6, 2) := by decide +kernel
theorem dX10_walks_267 : decode cX10_walks 267 = .ok (.iaload, 1) := by decide +kernel
theorem dX10_walks_268 : decode cX10_walks 268 = .ok (.if_icmp .lt 19, 3) := by decide +kernel
theorem dX10_walks_271 : decode cX10_walks 271 = .ok (.aload_n 0, 1) := by decide +kernel
theorem dX10_walks_272 : decode cX10_walks 272 = .ok (.getfield 102, 3) := by decide +kernel
theorem dX10_walks_275 : decode cX10_walks 275 = .ok (.iload 4, 2) := by decide +kernel
theorem dX10_walks_277 : decode cX10_walks 277 = .ok (.dup2, 1) := by decide +kernel
theorem dX10_walks_278 : decode cX10_walks 278 = .ok (.iaload, 1) := by decide +kernel
theorem dX10_walks_279 : decode cX10_walks 279 = .ok (.aload_n 0, 1) := by decide +kernel
theorem dX10_walks_280 : decode cX10_walks 280 = .ok (.getfield 13, 3) := by decide +kernel
theorem dX10_walks_283 : decode cX10_walks 283 = .ok (.iconst 5, 1) := by decide +kernel
theorem dX10_walks_284 : decode cX10_walks 284 = .ok (.iaload, 1) := by decide +kernel
theorem dX10_walks_285 : decode cX10_walks 285 = .ok (.iadd, 1) := by decide +kernel
theorem dX10_walks_286 : decode cX10_walks 286 = .ok (.iastore, 1) := by decide +kernel
theorem dX10_walks_287 : decode cX10_walks 287 = .ok (.aload_n 0, 1) := by decide +kernel
theorem dX10_walks_288 : decode cX10_walks 288 = .ok (.iload_n 1, 1) := by decide +kernel
theorem dX10_walks_289 : decode cX10_walks 289 = .ok (.iload_n 2, 1) := by decide +kernel
theorem dX10_walks_290 : decode cX10_walks 290 = .ok (.iload 7, 2) := by decide +kernel
theorem dX10_walks_292 : decode cX10_walks 292 = .ok (.invokevirtual 363, 3) := by decide +kernel
theorem dX10_walks_295 : decode cX10_walks 295 = .ok (.aload_n 0, 1) := by decide +kernel
theorem dX10_walks_296 : decode cX10_walks 296 = .ok (.getfield 87, 3) := by decide +kernel
theorem dX10_walks_299 : decode cX10_walks 299 = .ok (.iload 4, 2) := by decide +kernel
theorem dX10_walks_301 : decode cX10_walks 301 = .ok (.dup2, 1) := by decide +kernel
theorem dX10_walks_302 : decode cX10_walks 302 = .ok (.iaload, 1) := by decide +kernel
theorem dX10_walks_303 : decode cX10_walks 303 = .ok (.aload_n 0, 1) := by decide +kernel
theorem dX10_walks_304 : decode cX10_walks 304 = .ok (.iconst 2, 1) := by decide +kernel
theorem dX10_walks_305 : decode cX10_walks 305 = .ok (.sipush 999, 3) := by decide +kernel
theorem dX10_walks_308 : decode cX10_walks 308 = .ok (.sipush 999, 3) := by decide +kernel
theorem dX10_walks_311 : decode cX10_walks 311 = .ok (.iload 7, 2) := by decide +kernel
theorem dX10_walks_313 : decode cX10_walks 313 = .ok (.invokestatic 371, 3) := by decide +kernel
theorem dX10_walks_316 : decode cX10_walks 316 = .ok (.invokevirtual 367, 3) := by decide +kernel
theorem dX10_walks_319 : decode cX10_walks 319 = .ok (.iadd, 1) := by decide +kernel
theorem dX10_walks_320 : decode cX10_walks 320 = .ok (.iastore, 1) := by decide +kernel
theorem dX10_walks_321 : decode cX10_walks 321 = .ok (.aload_n 0, 1) := by decide +kernel
theorem dX10_walks_322 : decode cX10_walks 322 = .ok (.iload_n 1, 1) := by decide +kernel
theorem dX10_walks_323 : decode cX10_walks 323 = .ok (.iload_n 2, 1) := by decide +kernel
theorem dX10_walks_324 : decode cX10_walks 324 = .ok (.iload 7, 2) := by decide +kernel
theorem dX10_walks_326 : decode cX10_walks 326 = .ok (.invokevirtual 363, 3) := by decide +kernel
theorem dX10_walks_329 : decode cX10_walks 329 = .ok (.aload_n 0, 1) := by decide +kernel
theorem dX10_walks_330 : decode cX10_walks 330 = .ok (.getfield 78, 3) := by decide +kernel
theorem dX10_walks_333 : decode cX10_walks 333 = .ok (.iload 4, 2) := by decide +kernel
theorem dX10_walks_335 : decode cX10_walks 335 = .ok (.iaload, 1) := by decide +kernel
theorem dX10_walks_336 : decode cX10_walks 336 = .ok (.istore 10, 2) := by decide +kernel
theorem dX10_walks_338 : decode cX10_walks 338 = .ok (.iload 9, 2) := by decide +kernel
theorem dX10_walks_340 : decode cX10_walks 340 = .ok (.ifCond .eq 30, 3) := by decide +kernel
theorem dX10_walks_343 : decode cX10_walks 343 = .ok (.aload_n 0, 1) := by decide +kernel
theorem dX10_walks_344 : decode cX10_walks 344 = .ok (.getfield 81, 3) := by decide +kernel
theorem dX10_walks_347 : decode cX10_walks 347 = .ok (.iload 4, 2) := by decide +kernel
theorem dX10_walks_349 : decode cX10_walks 349 = .ok (.iaload, 1) := by decide +kernel
theorem dX10_walks_350 : decode cX10_walks 350 = .ok (.bipush 7, 2) := by decide +kernel
theorem dX10_walks_352 : decode cX10_walks 352 = .ok (.irem, 1) := by decide +kernel
theorem dX10_walks_353 : decode cX10_walks 353 = .ok (.ifCond .ne 17, 3) := by decide +kernel
theorem dX10_walks_356 : decode cX10_walks 356 = .ok (.bipush 99, 2) := by decide +kernel
theorem dX10_walks_358 : decode cX10_walks 358 = .ok (.iload 10, 2) := by decide +kernel
theorem dX10_walks_360 : decode cX10_walks 360 = .ok (.iconst 1, 1) := by decide +kernel
theorem dX10_walks_361 : decode cX10_walks 361 = .ok (.iadd, 1) := by decide +kernel
theorem dX10_walks_362 : decode cX10_walks 362 = .ok (.invokestatic 371, 3) := by decide +kernel
theorem dX10_walks_365 : decode cX10_walks 365 = .ok (.istore 10, 2) := by decide +kernel
theorem dX10_walks_367 : decode cX10_walks 367 = .ok (.goto 24, 3) := by decide +kernel
theorem dX10_walks_370 : decode cX10_walks 370 = .ok (.iload 9, 2) := by decide +kernel
theorem dX10_walks_372 : decode cX10_walks 372 = .ok (.ifCond .ne 19, 3) := by decide +kernel
theorem dX10_walks_375 : decode cX10_walks 375 = .ok (.iload 8, 2) := by decide +kernel
theorem dX10_walks_377 : decode cX10_walks 377 = .ok (.iconst 3, 1) := by decide +kernel
theorem dX10_walks_378 : decode cX10_walks 378 = .ok (.if_icmp .lt 13, 3) := by decide +kernel
theorem dX10_walks_381 : decode cX10_walks 381 = .ok (.iconst 0, 1) := by decide +kernel
theorem dX10_walks_382 : decode cX10_walks 382 = .ok (.iload 10, 2) := by decide +kernel
theorem dX10_walks_384 : decode cX10_walks 384 = .ok (.iconst 1, 1) := by decide +kernel
theorem dX10_walks_385 : decode cX10_walks 385 = .ok (.isub, 1) := by decide +kernel
theorem dX10_walks_386 : decode cX10_walks 386 = .ok (.invokestatic 337, 3) := by decide +kernel
theorem dX10_walks_389 : decode cX10_walks 389 = .ok (.istore 10, 2) := by decide +kernel
theorem dX10_walks_391 : decode cX10_walks 391 = .ok (.aload_n 0, 1) := by decide +kernel
theorem dX10_walks_392 : decode cX10_walks 392 = .ok (.getfield 78, 3) := by decide +kernel
theorem dX10_walks_395 : decode cX10_walks 395 = .ok (.iload 4, 2) := by decide +kernel
theorem dX10_walks_397 : decode cX10_walks 397 = .ok (.aload_n 0, 1) := by decide +kernel
theorem dX10_walks_398 : decode cX10_walks 398 = .ok (.iconst 1, 1) := by decide +kernel
theorem dX10_walks_399 : decode cX10_walks 399 = .ok (.bipush 99, 2) := by decide +kernel
theorem dX10_walks_401 : decode cX10_walks 401 = .ok (.iload 10, 2) := by decide +kernel
theorem dX10_walks_403 : decode cX10_walks 403 = .ok (.invokevirtual 367, 3) := by decide +kernel
theorem dX10_walks_406 : decode cX10_walks 406 = .ok (.iastore, 1) := by decide +kernel
theorem dX10_walks_407 : decode cX10_walks 407 = .ok (.aload_n 0, 1) := by decide +kernel
theorem dX10_walks_408 : decode cX10_walks 408 = .ok (.getfield 99, 3) := by decide +kernel
theorem dX10_walks_411 : decode cX10_walks 411 = .ok (.iload 4, 2) := by decide +kernel
theorem dX10_walks_413 : decode cX10_walks 413 = .ok (.iconst 0, 1) := by decide +kernel
theorem dX10_walks_414 : decode cX10_walks 414 = .ok (.iastore, 1) := by decide +kernel
theorem dX10_walks_415 : decode cX10_walks 415 = .ok (.return_, 1) := by decide +kernel
theorem dX10_leader_0 : decode cX10_leader 0 = .ok (.iconst (-1), 1) := by decide +kernel
theorem dX10_leader_1 : decode cX10_leader 1 = .ok (.istore_n 2, 1) := by decide +kernel
theorem dX10_leader_2 : decode cX10_leader 2 = .ok (.iconst 0, 1) := by decide +kernel
theorem dX10_leader_3 : decode cX10_leader 3 = .ok (.istore_n 3, 1) := by decide +kernel
theorem dX10_leader_4 : decode cX10_leader 4 = .ok (.iload_n 3, 1) := by decide +kernel
theorem dX10_leader_5 : decode cX10_leader 5 = .ok (.aload_n 0, 1) := by decide +kernel
theorem dX10_leader_6 : decode cX10_leader 6 = .ok (.getfield 13, 3) := by decide +kernel
theorem dX10_leader_9 : decode cX10_leader 9 = .ok (.iconst 0, 1) := by decide +kernel
theorem dX10_leader_10 : decode cX10_leader 10 = .ok (.iaload, 1) := by decide +kernel
theorem dX10_leader_11 : decode cX10_leader 11 = .ok (.if_icmp .ge 47, 3) := by decide +kernel
theorem dX10_leader_14 : decode cX10_leader 14 = .ok (.aload_n 0, 1) := by decide +kernel
theorem dX10_leader_15 : decode cX10_leader 15 = .ok (.iload_n 3, 1) := by decide +kernel
theorem dX10_leader_16 : decode cX10_leader 16 = .ok (.invokevirtual 334, 3) := by decide +kernel
theorem dX10_leader_19 : decode cX10_leader 19 = .ok (.ifCond .eq 33, 3) := by decide +kernel
theorem dX10_leader_22 : decode cX10_leader 22 = .ok (.iload_n 2, 1) := by decide +kernel
theorem dX10_leader_23 : decode cX10_leader 23 = .ok (.iconst (-1), 1) := by decide +kernel
theorem dX10_leader_24 : decode cX10_leader 24 = .ok (.if_icmp .eq 26, 3) := by decide +kernel
theorem dX10_leader_27 : decode cX10_leader 27 = .ok (.aload_n 0, 1) := by decide +kernel
theorem dX10_leader_28 : decode cX10_leader 28 = .ok (.getfield 87, 3) := by decide +kernel
theorem dX10_leader_31 : decode cX10_leader 31 = .ok (.iconst 5, 1) := by decide +kernel
theorem dX10_leader_32 : decode cX10_leader 32 = .ok (.iload_n 1, 1) := by decide +kernel
theorem dX10_leader_33 : decode cX10_leader 33 = .ok (.imul, 1) := by decide +kernel
theorem dX10_leader_34 : decode cX10_leader 34 = .ok (.iload_n 3, 1) := by decide +kernel
theorem dX10_leader_35 : decode cX10_leader 35 = .ok (.iadd, 1) := by decide +kernel
theorem dX10_leader_36 : decode cX10_leader 36 = .ok (.iaload, 1) := by decide +kernel
theorem dX10_leader_37 : decode cX10_leader 37 = .ok (.aload_n 0, 1) := by decide +kernel
theorem dX10_leader_38 : decode cX10_leader 38 = .ok (.getfield 87, 3) := by decide +kernel
theorem dX10_leader_41 : decode cX10_leader 41 = .ok (.iconst 5, 1) := by decide +kernel
theorem dX10_leader_42 : decode cX10_leader 42 = .ok (.iload_n 1, 1) := by decide +kernel
theorem dX10_leader_43 : decode cX10_leader 43 = .ok (.imul, 1) := by decide +kernel
theorem dX10_leader_44 : decode cX10_leader 44 = .ok (.iload_n 2, 1) := by decide +kernel
theorem dX10_leader_45 : decode cX10_leader 45 = .ok (.iadd, 1) := by decide +kernel
theorem dX10_leader_46 : decode cX10_leader 46 = .ok (.iaload, 1) := by decide +kernel
theorem dX10_leader_47 : decode cX10_leader 47 = .ok (.if_icmp .le 5, 3) := by decide +kernel
theorem dX10_leader_50 : decode cX10_leader 50 = .ok (.iload_n 3, 1) := by decide +kernel
theorem dX10_leader_51 : decode cX10_leader 51 = .ok (.istore_n 2, 1) := by decide +kernel
theorem dX10_leader_52 : decode cX10_leader 52 = .ok (.iinc 3 1, 3) := by decide +kernel
theorem dX10_leader_55 : decode cX10_leader 55 = .ok (.goto (-51), 3) := by decide +kernel
theorem dX10_leader_58 : decode cX10_leader 58 = .ok (.iload_n 2, 1) := by decide +kernel
theorem dX10_leader_59 : decode cX10_leader 59 = .ok (.ireturn, 1) := by decide +kernel
theorem dX10_passes_0 : decode cX10_passes 0 = .ok (.aload_n 0, 1) := by decide +kernel
theorem dX10_passes_1 : decode cX10_passes 1 = .ok (.getfield 331, 3) := by decide +kernel
theorem dX10_passes_4 : decode cX10_passes 4 = .ok (.iconst 1, 1) := by decide +kernel
theorem dX10_passes_5 : decode cX10_passes 5 = .ok (.if_icmp .ne 7, 3) := by decide +kernel
theorem dX10_passes_8 : decode cX10_passes 8 = .ok (.iconst 0, 1) := by decide +kernel
theorem dX10_passes_9 : decode cX10_passes 9 = .ok (.goto 10, 3) := by decide +kernel
theorem dX10_passes_12 : decode cX10_passes 12 = .ok (.aload_n 0, 1) := by decide +kernel
theorem dX10_passes_13 : decode cX10_passes 13 = .ok (.getfield 13, 3) := by decide +kernel
theorem dX10_passes_16 : decode cX10_passes 16 = .ok (.bipush 7, 2) := by decide +kernel
theorem dX10_passes_18 : decode cX10_passes 18 = .ok (.iaload, 1) := by decide +kernel
theorem dX10_passes_19 : decode cX10_passes 19 = .ok (.istore_n 3, 1) := by decide +kernel
theorem dX10_passes_20 : decode cX10_passes 20 = .ok (.iload_n 3, 1) := by decide +kernel
theorem dX10_passes_21 : decode cX10_passes 21 = .ok (.bipush 50, 2) := by decide +kernel
theorem dX10_passes_23 : decode cX10_passes 23 = .ok (.if_icmp .lt 7, 3) := by decide +kernel
theorem dX10_passes_26 : decode cX10_passes 26 = .ok (.iconst 1, 1) := by decide +kernel
theorem dX10_passes_27 : decode cX10_passes 27 = .ok (.goto 4, 3) := by decide +kernel
theorem dX10_passes_30 : decode cX10_passes 30 = .ok (.iconst 0, 1) := by decide +kernel
theorem dX10_passes_31 : decode cX10_passes 31 = .ok (.istore 4, 2) := by decide +kernel
theorem dX10_passes_33 : decode cX10_passes 33 = .ok (.iload_n 2, 1) := by decide +kernel
theorem dX10_passes_34 : decode cX10_passes 34 = .ok (.ifCond .eq 54, 3) := by decide +kernel
theorem dX10_passes_37 : decode cX10_passes 37 = .ok (.iload_n 3, 1) := by decide +kernel
theorem dX10_passes_38 : decode cX10_passes 38 = .ok (.ifCond .le 50, 3) := by decide +kernel
theorem dX10_passes_41 : decode cX10_passes 41 = .ok (.aload_n 0, 1) := by decide +kernel
theorem dX10_passes_42 : decode cX10_passes 42 = .ok (.getfield 72, 3) := by decide +kernel
theorem dX10_passes_45 : decode cX10_passes 45 = .ok (.iload_n 1, 1) := by decide +kernel
theorem dX10_passes_46 : decode cX10_passes 46 = .ok (.aload_n 0, 1) := by decide +kernel
theorem dX10_passes_47 : decode cX10_passes 47 = .ok (.getfield 72, 3) := by decide +kernel
theorem dX10_passes_50 : decode cX10_passes 50 = .ok (.iload_n 1, 1) := by decide +kernel
theorem dX10_passes_51 : decode cX10_passes 51 = .ok (.iaload, 1) := by decide +kernel
theorem dX10_passes_52 : decode cX10_passes 52 = .ok (.ldc_w 373, 3) := by decide +kernel
theorem dX10_passes_55 : decode cX10_passes 55 = .ok (.imul, 1) := by decide +kernel
theorem dX10_passes_56 : decode cX10_passes 56 = .ok (.sipush 12345, 3) := by decide +kernel
theorem dX10_passes_59 : decode cX10_passes 59 = .ok (.iadd, 1) := by decide +kernel
theorem dX10_passes_60 : decode cX10_passes 60 = .ok (.ldc_w 376, 3) := by decide +kernel
theorem dX10_passes_63 : decode cX10_passes 63 = .ok (.iand, 1) := by decide +kernel
theorem dX10_passes_64 : decode cX10_passes 64 = .ok (.iastore, 1) := by decide +kernel
theorem dX10_passes_65 : decode cX10_passes 65 = .ok (.aload_n 0, 1) := by decide +kernel
theorem dX10_passes_66 : decode cX10_passes 66 = .ok (.getfield 72, 3) := by decide +kernel
theorem dX10_passes_69 : decode cX10_passes 69 = .ok (.iload_n 1, 1) := by decide +kernel
theorem dX10_passes_70 : decode cX10_passes 70 = .ok (.iaload, 1) := by decide +kernel
theorem dX10_passes_71 : decode cX10_passes 71 = .ok (.bipush 16, 2) := by decide +kernel
theorem dX10_passes_73 : decode cX10_passes 73 = .ok (.ishr, 1) := by decide +kernel
theorem dX10_passes_74 : decode cX10_passes 74 = .ok (.bipush 100, 2) := by decide +kernel
theorem dX10_passes_76 : decode cX10_passes 76 = .ok (.irem, 1) := by decide +kernel
theorem dX10_passes_77 : decode cX10_passes 77 = .ok (.iload_n 3, 1) := by decide +kernel
theorem dX10_passes_78 : decode cX10_passes 78 = .ok (.if_icmp .ge 7, 3) := by decide +kernel
theorem dX10_passes_81 : decode cX10_passes 81 = .ok (.iconst 1, 1) := by decide +kernel
theorem dX10_passes_82 : decode cX10_passes 82 = .ok (.goto 4, 3) := by decide +kernel
theorem dX10_passes_85 : decode cX10_passes 85 = .ok (.iconst 0, 1) := by decide +kernel
theorem dX10_passes_86 : decode cX10_passes 86 = .ok (.istore 4, 2) := by decide +kernel
theorem dX10_passes_88 : decode cX10_passes 88 = .ok (.aload_n 0, 1) := by decide +kernel
theorem dX10_passes_89 : decode cX10_passes 89 = .ok (.getfield 69, 3) := by decide +kernel
theorem dX10_passes_92 : decode cX10_passes 92 = .ok (.iload_n 1, 1) := by decide +kernel
theorem dX10_passes_93 : decode cX10_passes 93 = .ok (.dup2, 1) := by decide +kernel
theorem dX10_passes_94 : decode cX10_passes 94 = .ok (.iaload, 1) := by decide +kernel
theorem dX10_passes_95 : decode cX10_passes 95 = .ok (.iload 4, 2) := by decide +kernel
theorem dX10_passes_97 : decode cX10_passes 97 = .ok (.ifCond .eq 7, 3) := by decide +kernel
theorem dX10_passes_100 : decode cX10_passes 100 = .ok (.iconst 1, 1) := by decide +kernel
theorem dX10_passes_101 : decode cX10_passes 101 = .ok (.goto 4, 3) := by decide +kernel
theorem dX10_passes_104 : decode cX10_passes 104 = .ok (.iconst 0, 1) := by decide +kernel
theorem dX10_passes_105 : decode cX10_passes 105 = .ok (.iadd, 1) := by decide +kernel
theorem dX10_passes_106 : decode cX10_passes 106 = .ok (.iastore, 1) := by decide +kernel
theorem dX10_passes_107 : decode cX10_passes 107 = .ok (.iconst 0, 1) := by decide +kernel
theorem dX10_passes_108 : decode cX10_passes 108 = .ok (.istore 5, 2) := by decide +kernel
theorem dX10_passes_110 : decode cX10_passes 110 = .ok (.iload 5, 2) := by decide +kernel
theorem dX10_passes_112 : decode cX10_passes 112 = .ok (.aload_n 0, 1) := by decide +kernel
theorem dX10_passes_113 : decode cX10_passes 113 = .ok (.getfield 13, 3) := by decide +kernel
theorem dX10_passes_116 : decode cX10_passes 116 = .ok (.iconst 0, 1) := by decide +kernel
theorem dX10_passes_117 : decode cX10_passes 117 = .ok (.iaload, 1) := by decide +kernel
theorem dX10_passes_118 : decode cX10_passes 118 = .ok (.if_icmp .ge 27, 3) := by decide +kernel
theorem dX10_passes_121 : decode cX10_passes 121 = .ok (.aload_n 0, 1) := by decide +kernel
theorem dX10_passes_122 : decode cX10_passes 122 = .ok (.iload 5, 2) := by decide +kernel
theorem dX10_passes_124 : decode cX10_passes 124 = .ok (.invokevirtual 334, 3) := by decide +kernel
theorem dX10_passes_127 : decode cX10_passes 127 = .ok (.ifCond .eq 12, 3) := by decide +kernel
theorem dX10_passes_130 : decode cX10_passes 130 = .ok (.aload_n 0, 1) := by decide +kernel
theorem dX10_passes_131 : decode cX10_passes 131 = .ok (.iload_n 1, 1) := by decide +kernel
theorem dX10_passes_132 : decode cX10_passes 132 = .ok (.iload 5, 2) := by decide +kernel
theorem dX10_passes_134 : decode cX10_passes 134 = .ok (.iload 4, 2) := by decide +kernel
theorem dX10_passes_136 : decode cX10_passes 136 = .ok (.invokevirtual 377, 3) := by decide +kernel
theorem dX10_passes_139 : decode cX10_passes 139 = .ok (.iinc 5 1, 3) := by decide +kernel
theorem dX10_passes_142 : decode cX10_passes 142 = .ok (.goto (-32), 3) := by decide +kernel
theorem dX10_passes_145 : decode cX10_passes 145 = .ok (.aload_n 0, 1) := by decide +kernel
theorem dX10_passes_146 : decode cX10_passes 146 = .ok (.iconst (-1), 1) := by decide +kernel
theorem dX10_passes_147 : decode cX10_passes 147 = .ok (.putfield 381, 3) := by decide +kernel
theorem dX10_passes_150 : decode cX10_passes 150 = .ok (.aload_n 0, 1) := by decide +kernel
theorem dX10_passes_151 : decode cX10_passes 151 = .ok (.getfield 66, 3) := by decide +kernel
theorem dX10_passes_154 : decode cX10_passes 154 = .ok (.iload_n 1, 1) := by decide +kernel
theorem dX10_passes_155 : decode cX10_passes 155 = .ok (.dup2, 1) := by decide +kernel
theorem dX10_passes_156 : decode cX10_passes 156 = .ok (.iaload, 1) := by decide +kernel
theorem dX10_passes_157 : decode cX10_passes 157 = .ok (.iconst 1, 1) := by decide +kernel
theorem dX10_passes_158 : decode cX10_passes 158 = .ok (.iadd, 1) := by decide +kernel
theorem dX10_passes_159 : decode cX10_passes 159 = .ok (.iastore, 1) := by decide +kernel
theorem dX10_passes_160 : decode cX10_passes 160 = .ok (.aload_n 0, 1) := by decide +kernel
theorem dX10_passes_161 : decode cX10_passes 161 = .ok (.getfield 66, 3) := by decide +kernel
theorem dX10_passes_164 : decode cX10_passes 164 = .ok (.iload_n 1, 1) := by decide +kernel
theorem dX10_passes_165 : decode cX10_passes 165 = .ok (.iaload, 1) := by decide +kernel
theorem dX10_passes_166 : decode cX10_passes 166 = .ok (.aload_n 0, 1) := by decide +kernel
theorem dX10_passes_167 : decode cX10_passes 167 = .ok (.getfield 13, 3) := by decide +kernel
theorem dX10_passes_170 : decode cX10_passes 170 = .ok (.iconst 4, 1) := by decide +kernel
theorem dX10_passes_171 : decode cX10_passes 171 = .ok (.iaload, 1) := by decide +kernel
theorem dX10_passes_172 : decode cX10_passes 172 = .ok (.irem, 1) := by decide +kernel
theorem dX10_passes_173 : decode cX10_passes 173 = .ok (.ifCond .eq 4, 3) := by decide +kernel
theorem dX10_passes_176 : decode cX10_passes 176 = .ok (.return_, 1) := by decide +kernel
theorem dX10_passes_177 : decode cX10_passes 177 = .ok (.aload_n 0, 1) := by decide +kernel
theorem dX10_passes_178 : decode cX10_passes 178 = .ok (.aload_n 0, 1) := by decide +kernel
theorem dX10_passes_179 : decode cX10_passes 179 = .ok (.iload_n 1, 1) := by decide +kernel
theorem dX10_passes_180 : decode cX10_passes 180 = .ok (.invokevirtual 384, 3) := by decide +kernel
theorem dX10_passes_183 : decode cX10_passes 183 = .ok (.putfield 381, 3) := by decide +kernel
theorem dX10_passes_186 : decode cX10_passes 186 = .ok (.aload_n 0, 1) := by decide +kernel
theorem dX10_passes_187 : decode cX10_passes 187 = .ok (.getfield 381, 3) := by decide +kernel
theorem dX10_passes_190 : decode cX10_passes 190 = .ok (.iconst (-1), 1) := by decide +kernel
theorem dX10_passes_191 : decode cX10_passes 191 = .ok (.if_icmp .eq 25, 3) := by decide +kernel
theorem dX10_passes_194 : decode cX10_passes 194 = .ok (.aload_n 0, 1) := by decide +kernel
theorem dX10_passes_195 : decode cX10_passes 195 = .ok (.getfield 105, 3) := by decide +kernel
theorem dX10_passes_198 : decode cX10_passes 198 = .ok (.iconst 5, 1) := by decide +kernel
theorem dX10_passes_199 : decode cX10_passes 199 = .ok (.iload_n 1, 1) := by decide +kernel
theorem dX10_passes_200 : decode cX10_passes 200 = .ok (.imul, 1) := by decide +kernel
theorem dX10_passes_201 : decode cX10_passes 201 = .ok (.aload_n 0, 1) := by decide +kernel
theorem dX10_passes_202 : decode cX10_passes 202 = .ok (.getfield 381, 3) := by decide +kernel
theorem dX10_passes_205 : decode cX10_passes 205 = .ok (.iadd, 1) := by decide +kernel
theorem dX10_passes_206 : decode cX10_passes 206 = .ok (.dup2, 1) := by decide +kernel
theorem dX10_passes_207 : decode cX10_passes 207 = .ok (.iaload, 1) := by decide +kernel
theorem dX10_passes_208 : decode cX10_passes 208 = .ok (.aload_n 0, 1) := by decide +kernel
theorem dX10_passes_209 : decode cX10_passes 209 = .ok (.getfield 13, 3) := by decide +kernel
theorem dX10_passes_212 : decode cX10_passes 212 = .ok (.iconst 3, 1) := by decide +kernel
theorem dX10_passes_213 : decode cX10_passes 213 = .ok (.iaload, 1) := by decide +kernel
theorem dX10_passes_214 : decode cX10_passes 214 = .ok (.iadd, 1) := by decide +kernel
theorem dX10_passes_215 : decode cX10_passes 215 = .ok (.iastore, 1) := by decide +kernel
theorem dX10_passes_216 : decode cX10_passes 216 = .ok (.iconst 0, 1) := by decide +kernel
theorem dX10_passes_217 : decode cX10_passes 217 = .ok (.istore 5, 2) := by decide +kernel
theorem dX10_passes_219 : decode cX10_passes 219 = .ok (.iload 5, 2) := by decide +kernel
theorem dX10_passes_221 : decode cX10_passes 221 = .ok (.iconst 5, 1) := by decide +kernel
theorem dX10_passes_222 : decode cX10_passes 222 = .ok (.if_icmp .ge 21, 3) := by decide +kernel
theorem dX10_passes_225 : decode cX10_passes 225 = .ok (.aload_n 0, 1) := by decide +kernel
theorem dX10_passes_226 : decode cX10_passes 226 = .ok (.getfield 87, 3) := by decide +kernel
theorem dX10_passes_229 : decode cX10_passes 229 = .ok (.iconst 5, 1) := by decide +kernel
theorem dX10_passes_230 : decode cX10_passes 230 = .ok (.iload_n 1, 1) := by decide +kernel
theorem dX10_passes_231 : decode cX10_passes 231 = .ok (.imul, 1) := by decide +kernel
theorem dX10_passes_232 : decode cX10_passes 232 = .ok (.iload 5, 2) := by decide +kernel
theorem dX10_passes_234 : decode cX10_passes 234 = .ok (.iadd, 1) := by decide +kernel
theorem dX10_passes_235 : decode cX10_passes 235 = .ok (.iconst 0, 1) := by decide +kernel
theorem dX10_passes_236 : decode cX10_passes 236 = .ok (.iastore, 1) := by decide +kernel
theorem dX10_passes_237 : decode cX10_passes 237 = .ok (.iinc 5 1, 3) := by decide +kernel
theorem dX10_passes_240 : decode cX10_passes 240 = .ok (.goto (-21), 3) := by decide +kernel
theorem dX10_passes_243 : decode cX10_passes 243 = .ok (.return_, 1) := by decide +kernel
theorem dX10_runs_0 : decode cX10_runs 0 = .ok (.aload_n 0, 1) := by decide +kernel
theorem dX10_runs_1 : decode cX10_runs 1 = .ok (.iconst 1, 1) := by decide +kernel
theorem dX10_runs_2 : decode cX10_runs 2 = .ok (.iconst 0, 1) := by decide +kernel
theorem dX10_runs_3 : decode cX10_runs 3 = .ok (.invokevirtual 387, 3) := by decide +kernel
theorem dX10_runs_6 : decode cX10_runs 6 = .ok (.iconst 0, 1) := by decide +kernel
theorem dX10_runs_7 : decode cX10_runs 7 = .ok (.istore_n 2, 1) := by decide +kernel
theorem dX10_runs_8 : decode cX10_runs 8 = .ok (.iload_n 2, 1) := by decide +kernel
theorem dX10_runs_9 : decode cX10_runs 9 = .ok (.iload_n 1, 1) := by decide +kernel
theorem dX10_runs_10 : decode cX10_runs 10 = .ok (.if_icmp .ge 15, 3) := by decide +kernel
theorem dX10_runs_13 : decode cX10_runs 13 = .ok (.aload_n 0, 1) := by decide +kernel
theorem dX10_runs_14 : decode cX10_runs 14 = .ok (.iconst 1, 1) := by decide +kernel
theorem dX10_runs_15 : decode cX10_runs 15 = .ok (.iconst 0, 1) := by decide +kernel
theorem dX10_runs_16 : decode cX10_runs 16 = .ok (.invokevirtual 390, 3) := by decide +kernel
theorem dX10_runs_19 : decode cX10_runs 19 = .ok (.iinc 2 1, 3) := by decide +kernel
theorem dX10_runs_22 : decode cX10_runs 22 = .ok (.goto (-14), 3) := by decide +kernel
theorem dX10_runs_25 : decode cX10_runs 25 = .ok (.return_, 1) := by decide +kernel
theorem dX10_sumOf_0 : decode cX10_sumOf 0 = .ok (.iconst 0, 1) := by decide +kernel
theorem dX10_sumOf_1 : decode cX10_sumOf 1 = .ok (.istore_n 3, 1) := by decide +kernel
theorem dX10_sumOf_2 : decode cX10_sumOf 2 = .ok (.iconst 0, 1) := by decide +kernel
theorem dX10_sumOf_3 : decode cX10_sumOf 3 = .ok (.istore 4, 2) := by decide +kernel
theorem dX10_sumOf_5 : decode cX10_sumOf 5 = .ok (.iload 4, 2) := by decide +kernel
theorem dX10_sumOf_7 : decode cX10_sumOf 7 = .ok (.aload_n 0, 1) := by decide +kernel
theorem dX10_sumOf_8 : decode cX10_sumOf 8 = .ok (.getfield 13, 3) := by decide +kernel
theorem dX10_sumOf_11 : decode cX10_sumOf 11 = .ok (.iconst 0, 1) := by decide +kernel
theorem dX10_sumOf_12 : decode cX10_sumOf 12 = .ok (.iaload, 1) := by decide +kernel
theorem dX10_sumOf_13 : decode cX10_sumOf 13 = .ok (.if_icmp .ge 20, 3) := by decide +kernel
theorem dX10_sumOf_16 : decode cX10_sumOf 16 = .ok (.iload_n 3, 1) := by decide +kernel
theorem dX10_sumOf_17 : decode cX10_sumOf 17 = .ok (.aload_n 1, 1) := by decide +kernel
theorem dX10_sumOf_18 : decode cX10_sumOf 18 = .ok (.iconst 5, 1) := by decide +kernel
theorem dX10_sumOf_19 : decode cX10_sumOf 19 = .ok (.iload_n 2, 1) := by decide +kernel
theorem dX10_sumOf_20 : decode cX10_sumOf 20 = .ok (.imul, 1) := by decide +kernel
theorem dX10_sumOf_21 : decode cX10_sumOf 21 = .ok (.iload 4, 2) := by decide +kernel
theorem dX10_sumOf_23 : decode cX10_sumOf 23 = .ok (.iadd, 1) := by decide +kernel
theorem dX10_sumOf_24 : decode cX10_sumOf 24 = .ok (.iaload, 1) := by decide +kernel
theorem dX10_sumOf_25 : decode cX10_sumOf 25 = .ok (.iadd, 1) := by decide +kernel
theorem dX10_sumOf_26 : decode cX10_sumOf 26 = .ok (.istore_n 3, 1) := by decide +kernel
theorem dX10_sumOf_27 : decode cX10_sumOf 27 = .ok (.iinc 4 1, 3) := by decide +kernel
theorem dX10_sumOf_30 : decode cX10_sumOf 30 = .ok (.goto (-25), 3) := by decide +kernel
theorem dX10_sumOf_33 : decode cX10_sumOf 33 = .ok (.iload_n 3, 1) := by decide +kernel
theorem dX10_sumOf_34 : decode cX10_sumOf 34 = .ok (.ireturn, 1) := by decide +kernel
theorem dX10_man_0 : decode cX10_man 0 = .ok (.aload_n 0, 1) := by decide +kernel
theorem dX10_man_1 : decode cX10_man 1 = .ok (.aload_n 0, 1) := by decide +kernel
theorem dX10_man_2 : decode cX10_man 2 = .ok (.iload_n 1, 1) := by decide +kernel
theorem dX10_man_3 : decode cX10_man 3 = .ok (.invokevirtual 394, 3) := by decide +kernel
theorem dX10_man_6 : decode cX10_man 6 = .ok (.ifCond .ne 7, 3) := by decide +kernel
theorem dX10_man_9 : decode cX10_man 9 = .ok (.iconst 1, 1) := by decide +kernel
theorem dX10_man_10 : decode cX10_man 10 = .ok (.goto 18, 3) := by decide +kernel
theorem dX10_man_13 : decode cX10_man 13 = .ok (.iload_n 2, 1) := by decide +kernel
theorem dX10_man_14 : decode cX10_man 14 = .ok (.ifCond .lt 9, 3) := by decide +kernel
theorem dX10_man_17 : decode cX10_man 17 = .ok (.iload_n 2, 1) := by decide +kernel
theorem dX10_man_18 : decode cX10_man 18 = .ok (.bipush 7, 2) := by decide +kernel
theorem dX10_man_20 : decode cX10_man 20 = .ok (.if_icmp .le 7, 3) := by decide +kernel
theorem dX10_man_23 : decode cX10_man 23 = .ok (.iconst 2, 1) := by decide +kernel
theorem dX10_man_24 : decode cX10_man 24 = .ok (.goto 4, 3) := by decide +kernel
theorem dX10_man_27 : decode cX10_man 27 = .ok (.iconst 0, 1) := by decide +kernel
theorem dX10_man_28 : decode cX10_man 28 = .ok (.putfield 145, 3) := by decide +kernel
theorem dX10_man_31 : decode cX10_man 31 = .ok (.aload_n 0, 1) := by decide +kernel
theorem dX10_man_32 : decode cX10_man 32 = .ok (.getfield 145, 3) := by decide +kernel
theorem dX10_man_35 : decode cX10_man 35 = .ok (.ifCond .eq 5, 3) := by decide +kernel
theorem dX10_man_38 : decode cX10_man 38 = .ok (.iconst 0, 1) := by decide +kernel
theorem dX10_man_39 : decode cX10_man 39 = .ok (.ireturn, 1) := by decide +kernel
theorem dX10_man_40 : decode cX10_man 40 = .ok (.iload_n 2, 1) := by decide +kernel
theorem dX10_man_41 : decode cX10_man 41 = .ok (.tableswitch 92 0 6 #[43, 50, 57, 64, 71, 78, 85], 43) := by decide +kernel
theorem dX10_man_84 : decode cX10_man 84 = .ok (.aload_n 0, 1) := by decide +kernel
theorem dX10_man_85 : decode cX10_man 85 = .ok (.getfield 75, 3) := by decide +kernel
theorem dX10_man_88 : decode cX10_man 88 = .ok (.iload_n 1, 1) := by decide +kernel
theorem dX10_man_89 : decode cX10_man 89 = .ok (.iaload, 1) := by decide +kernel
theorem dX10_man_90 : decode cX10_man 90 = .ok (.ireturn, 1) := by decide +kernel
theorem dX10_man_91 : decode cX10_man 91 = .ok (.aload_n 0, 1) := by decide +kernel
theorem dX10_man_92 : decode cX10_man 92 = .ok (.getfield 78, 3) := by decide +kernel
theorem dX10_man_95 : decode cX10_man 95 = .ok (.iload_n 1, 1) := by decide +kernel
theorem dX10_man_96 : decode cX10_man 96 = .ok (.iaload, 1) := by decide +kernel
theorem dX10_man_97 : decode cX10_man 97 = .ok (.ireturn, 1) := by decide +kernel
theorem dX10_man_98 : decode cX10_man 98 = .ok (.aload_n 0, 1) := by decide +kernel
theorem dX10_man_99 : decode cX10_man 99 = .ok (.getfield 25, 3) := by decide +kernel
theorem dX10_man_102 : decode cX10_man 102 = .ok (.iload_n 1, 1) := by decide +kernel
theorem dX10_man_103 : decode cX10_man 103 = .ok (.iaload, 1) := by decide +kernel
theorem dX10_man_104 : decode cX10_man 104 = .ok (.ireturn, 1) := by decide +kernel
theorem dX10_man_105 : decode cX10_man 105 = .ok (.aload_n 0, 1) := by decide +kernel
theorem dX10_man_106 : decode cX10_man 106 = .ok (.getfield 81, 3) := by decide +kernel
theorem dX10_man_109 : decode cX10_man 109 = .ok (.iload_n 1, 1) := by decide +kernel
theorem dX10_man_110 : decode cX10_man 110 = .ok (.iaload, 1) := by decide +kernel
theorem dX10_man_111 : decode cX10_man 111 = .ok (.ireturn, 1) := by decide +kernel
theorem dX10_man_112 : decode cX10_man 112 = .ok (.aload_n 0, 1) := by decide +kernel
theorem dX10_man_113 : decode cX10_man 113 = .ok (.getfield 84, 3) := by decide +kernel
theorem dX10_man_116 : decode cX10_man 116 = .ok (.iload_n 1, 1) := by decide +kernel
theorem dX10_man_117 : decode cX10_man 117 = .ok (.iaload, 1) := by decide +kernel
theorem dX10_man_118 : decode cX10_man 118 = .ok (.ireturn, 1) := by decide +kernel
theorem dX10_man_119 : decode cX10_man 119 = .ok (.aload_n 0, 1) := by decide +kernel
theorem dX10_man_120 : decode cX10_man 120 = .ok (.getfield 87, 3) := by decide +kernel
theorem dX10_man_123 : decode cX10_man 123 = .ok (.iload_n 1, 1) := by decide +kernel
theorem dX10_man_124 : decode cX10_man 124 = .ok (.iaload, 1) := by decide +kernel
theorem dX10_man_125 : decode cX10_man 125 = .ok (.ireturn, 1) := by decide +kernel
theorem dX10_man_126 : decode cX10_man 126 = .ok (.aload_n 0, 1) := by decide +kernel
theorem dX10_man_127 : decode cX10_man 127 = .ok (.getfield 90, 3) := by decide +kernel
theorem dX10_man_130 : decode cX10_man 130 = .ok (.iload_n 1, 1) := by decide +kernel
theorem dX10_man_131 : decode cX10_man 131 = .ok (.iaload, 1) := by decide +kernel
theorem dX10_man_132 : decode cX10_man 132 = .ok (.ireturn, 1) := by decide +kernel
theorem dX10_man_133 : decode cX10_man 133 = .ok (.aload_n 0, 1) := by decide +kernel
theorem dX10_man_134 : decode cX10_man 134 = .ok (.getfield 93, 3) := by decide +kernel
theorem dX10_man_137 : decode cX10_man 137 = .ok (.iload_n 1, 1) := by decide +kernel
theorem dX10_man_138 : decode cX10_man 138 = .ok (.iaload, 1) := by decide +kernel
theorem dX10_man_139 : decode cX10_man 139 = .ok (.ireturn, 1) := by decide +kernel
theorem dX10_has_0 : decode cX10_has 0 = .ok (.aload_n 0, 1) := by decide +kernel
theorem dX10_has_1 : decode cX10_has 1 = .ok (.iconst 0, 1) := by decide +kernel
theorem dX10_has_2 : decode cX10_has 2 = .ok (.putfield 145, 3) := by decide +kernel
theorem dX10_has_5 : decode cX10_has 5 = .ok (.aload_n 0, 1) := by decide +kernel
theorem dX10_has_6 : decode cX10_has 6 = .ok (.iload_n 1, 1) := by decide +kernel
theorem dX10_has_7 : decode cX10_has 7 = .ok (.invokevirtual 394, 3) := by decide +kernel
theorem dX10_has_10 : decode cX10_has 10 = .ok (.ifCond .ne 5, 3) := by decide +kernel
theorem dX10_has_13 : decode cX10_has 13 = .ok (.iconst (-1), 1) := by decide +kernel
theorem dX10_has_14 : decode cX10_has 14 = .ok (.ireturn, 1) := by decide +kernel
theorem dX10_has_15 : decode cX10_has 15 = .ok (.iload_n 2, 1) := by decide +kernel
theorem dX10_has_16 : decode cX10_has 16 = .ok (.ifCond .ne 12, 3) := by decide +kernel
theorem dX10_has_19 : decode cX10_has 19 = .ok (.aload_n 0, 1) := by decide +kernel
theorem dX10_has_20 : decode cX10_has 20 = .ok (.getfield 96, 3) := by decide +kernel
theorem dX10_has_23 : decode cX10_has 23 = .ok (.iload_n 1, 1) := by decide +kernel
theorem dX10_has_24 : decode cX10_has 24 = .ok (.iaload, 1) := by decide +kernel
theorem dX10_has_25 : decode cX10_has 25 = .ok (.goto 46, 3) := by decide +kernel
theorem dX10_has_28 : decode cX10_has 28 = .ok (.iload_n 2, 1) := by decide +kernel
theorem dX10_has_29 : decode cX10_has 29 = .ok (.iconst 1, 1) := by decide +kernel
theorem dX10_has_30 : decode cX10_has 30 = .ok (.if_icmp .ne 12, 3) := by decide +kernel
theorem dX10_has_33 : decode cX10_has 33 = .ok (.aload_n 0, 1) := by decide +kernel
theorem dX10_has_34 : decode cX10_has 34 = .ok (.getfield 99, 3) := by decide +kernel
theorem dX10_has_37 : decode cX10_has 37 = .ok (.iload_n 1, 1) := by decide +kernel
theorem dX10_has_38 : decode cX10_has 38 = .ok (.iaload, 1) := by decide +kernel
theorem dX10_has_39 : decode cX10_has 39 = .ok (.goto 32, 3) := by decide +kernel
theorem dX10_has_42 : decode cX10_has 42 = .ok (.iload_n 2, 1) := by decide +kernel
theorem dX10_has_43 : decode cX10_has 43 = .ok (.iconst 2, 1) := by decide +kernel
theorem dX10_has_44 : decode cX10_has 44 = .ok (.if_icmp .ne 12, 3) := by decide +kernel
theorem dX10_has_47 : decode cX10_has 47 = .ok (.aload_n 0, 1) := by decide +kernel
theorem dX10_has_48 : decode cX10_has 48 = .ok (.getfield 102, 3) := by decide +kernel
theorem dX10_has_51 : decode cX10_has 51 = .ok (.iload_n 1, 1) := by decide +kernel
theorem dX10_has_52 : decode cX10_has 52 = .ok (.iaload, 1) := by decide +kernel
theorem dX10_has_53 : decode cX10_has 53 = .ok (.goto 18, 3) := by decide +kernel
theorem dX10_has_56 : decode cX10_has 56 = .ok (.iload_n 2, 1) := by decide +kernel
theorem dX10_has_57 : decode cX10_has 57 = .ok (.iconst 3, 1) := by decide +kernel
theorem dX10_has_58 : decode cX10_has 58 = .ok (.if_icmp .ne 12, 3) := by decide +kernel
theorem dX10_has_61 : decode cX10_has 61 = .ok (.aload_n 0, 1) := by decide +kernel
theorem dX10_has_62 : decode cX10_has 62 = .ok (.getfield 105, 3) := by decide +kernel
theorem dX10_has_65 : decode cX10_has 65 = .ok (.iload_n 1, 1) := by decide +kernel
theorem dX10_has_66 : decode cX10_has 66 = .ok (.iaload, 1) := by decide +kernel
theorem dX10_has_67 : decode cX10_has 67 = .ok (.goto 4, 3) := by decide +kernel
theorem dX10_has_70 : decode cX10_has 70 = .ok (.iconst (-1), 1) := by decide +kernel
theorem dX10_has_71 : decode cX10_has 71 = .ok (.ireturn, 1) := by decide +kernel
theorem dX10_deed_0 : decode cX10_deed 0 = .ok (.aload_n 0, 1) := by decide +kernel
theorem dX10_deed_1 : decode cX10_deed 1 = .ok (.iconst 0, 1) := by decide +kernel
theorem dX10_deed_2 : decode cX10_deed 2 = .ok (.putfield 145, 3) := by decide +kernel
theorem dX10_deed_5 : decode cX10_deed 5 = .ok (.aload_n 0, 1) := by decide +kernel
theorem dX10_deed_6 : decode cX10_deed 6 = .ok (.iload_n 1, 1) := by decide +kernel
theorem dX10_deed_7 : decode cX10_deed 7 = .ok (.invokevirtual 397, 3) := by decide +kernel
theorem dX10_deed_10 : decode cX10_deed 10 = .ok (.ifCond .ne 5, 3) := by decide +kernel
theorem dX10_deed_13 : decode cX10_deed 13 = .ok (.iconst (-1), 1) := by decide +kernel
theorem dX10_deed_14 : decode cX10_deed 14 = .ok (.ireturn, 1) := by decide +kernel
theorem dX10_deed_15 : decode cX10_deed 15 = .ok (.iload_n 2, 1) := by decide +kernel
theorem dX10_deed_16 : decode cX10_deed 16 = .ok (.ifCond .ne 12, 3) := by decide +kernel
theorem dX10_deed_19 : decode cX10_deed 19 = .ok (.aload_n 0, 1) := by decide +kernel
theorem dX10_deed_20 : decode cX10_deed 20 = .ok (.getfield 31, 3) := by decide +kernel
theorem dX10_deed_23 : decode cX10_deed 23 = .ok (.iload_n 1, 1) := by decide +kernel
theorem dX10_deed_24 : decode cX10_deed 24 = .ok (.iaload, 1) := by decide +kernel
theorem dX10_deed_25 : decode cX10_deed 25 = .ok (.goto 32, 3) := by decide +kernel
theorem dX10_deed_28 : decode cX10_deed 28 = .ok (.iload_n 2, 1) := by decide +kernel
theorem dX10_deed_29 : decode cX10_deed 29 = .ok (.iconst 1, 1) := by decide +kernel
theorem dX10_deed_30 : decode cX10_deed 30 = .ok (.if_icmp .ne 12, 3) := by decide +kernel
theorem dX10_deed_33 : decode cX10_deed 33 = .ok (.aload_n 0, 1) := by decide +kernel
theorem dX10_deed_34 : decode cX10_deed 34 = .ok (.getfield 34, 3) := by decide +kernel
theorem dX10_deed_37 : decode cX10_deed 37 = .ok (.iload_n 1, 1) := by decide +kernel
theorem dX10_deed_38 : decode cX10_deed 38 = .ok (.iaload, 1) := by decide +kernel
theorem dX10_deed_39 : decode cX10_deed 39 = .ok (.goto 18, 3) := by decide +kernel
theorem dX10_deed_42 : decode cX10_deed 42 = .ok (.iload_n 2, 1) := by decide +kernel
theorem dX10_deed_43 : decode cX10_deed 43 = .ok (.iconst 2, 1) := by decide +kernel
theorem dX10_deed_44 : decode cX10_deed 44 = .ok (.if_icmp .ne 12, 3) := by decide +kernel
theorem dX10_deed_47 : decode cX10_deed 47 = .ok (.aload_n 0, 1) := by decide +kernel
theorem dX10_deed_48 : decode cX10_deed 48 = .ok (.getfield 37, 3) := by decide +kernel
theorem dX10_deed_51 : decode cX10_deed 51 = .ok (.iload_n 1, 1) := by decide +kernel
theorem dX10_deed_52 : decode cX10_deed 52 = .ok (.iaload, 1) := by decide +kernel
theorem dX10_deed_53 : decode cX10_deed 53 = .ok (.goto 4, 3) := by decide +kernel
theorem dX10_deed_56 : decode cX10_deed 56 = .ok (.iconst (-1), 1) := by decide +kernel
theorem dX10_deed_57 : decode cX10_deed 57 = .ok (.ireturn, 1) := by decide +kernel
theorem dX10_times_0 : decode cX10_times 0 = .ok (.aload_n 0, 1) := by decide +kernel
theorem dX10_times_1 : decode cX10_times 1 = .ok (.iconst 0, 1) := by decide +kernel
theorem dX10_times_2 : decode cX10_times 2 = .ok (.putfield 145, 3) := by decide +kernel
theorem dX10_times_5 : decode cX10_times 5 = .ok (.aload_n 0, 1) := by decide +kernel
theorem dX10_times_6 : decode cX10_times 6 = .ok (.iload_n 1, 1) := by decide +kernel
theorem dX10_times_7 : decode cX10_times 7 = .ok (.invokevirtual 394, 3) := by decide +kernel
theorem dX10_times_10 : decode cX10_times 10 = .ok (.ifCond .eq 25, 3) := by decide +kernel
theorem dX10_times_13 : decode cX10_times 13 = .ok (.aload_n 0, 1) := by decide +kernel
theorem dX10_times_14 : decode cX10_times 14 = .ok (.iload_n 2, 1) := by decide +kernel
theorem dX10_times_15 : decode cX10_times 15 = .ok (.invokevirtual 397, 3) := by decide +kernel
theorem dX10_times_18 : decode cX10_times 18 = .ok (.ifCond .eq 17, 3) := by decide +kernel
theorem dX10_times_21 : decode cX10_times 21 = .ok (.aload_n 0, 1) := by decide +kernel
theorem dX10_times_22 : decode cX10_times 22 = .ok (.getfield 108, 3) := by decide +kernel
theorem dX10_times_25 : decode cX10_times 25 = .ok (.bipush 6, 2) := by decide +kernel
theorem dX10_times_27 : decode cX10_times 27 = .ok (.iload_n 1, 1) := by decide +kernel
theorem dX10_times_28 : decode cX10_times 28 = .ok (.imul, 1) := by decide +kernel
theorem dX10_times_29 : decode cX10_times 29 = .ok (.iload_n 2, 1) := by decide +kernel
theorem dX10_times_30 : decode cX10_times 30 = .ok (.iadd, 1) := by decide +kernel
theorem dX10_times_31 : decode cX10_times 31 = .ok (.iaload, 1) := by decide +kernel
theorem dX10_times_32 : decode cX10_times 32 = .ok (.goto 4, 3) := by decide +kernel
theorem dX10_times_35 : decode cX10_times 35 = .ok (.iconst (-1), 1) := by decide +kernel
theorem dX10_times_36 : decode cX10_times 36 = .ok (.ireturn, 1) := by decide +kernel
theorem dX10_law_0 : decode cX10_law 0 = .ok (.aload_n 0, 1) := by decide +kernel
theorem dX10_law_1 : decode cX10_law 1 = .ok (.iconst 0, 1) := by decide +kernel
theorem dX10_law_2 : decode cX10_law 2 = .ok (.putfield 145, 3) := by decide +kernel
theorem dX10_law_5 : decode cX10_law 5 = .ok (.iload_n 1, 1) := by decide +kernel
theorem dX10_law_6 : decode cX10_law 6 = .ok (.ifCond .lt 24, 3) := by decide +kernel
theorem dX10_law_9 : decode cX10_law 9 = .ok (.iload_n 1, 1) := by decide +kernel
theorem dX10_law_10 : decode cX10_law 10 = .ok (.iconst 2, 1) := by decide +kernel
theorem dX10_law_11 : decode cX10_law 11 = .ok (.if_icmp .gt 19, 3) := by decide +kernel
theorem dX10_law_14 : decode cX10_law 14 = .ok (.aload_n 0, 1) := by decide +kernel
theorem dX10_law_15 : decode cX10_law 15 = .ok (.iload_n 1, 1) := by decide +kernel
theorem dX10_law_16 : decode cX10_law 16 = .ok (.invokevirtual 343, 3) := by decide +kernel
theorem dX10_law_19 : decode cX10_law 19 = .ok (.ifCond .eq 11, 3) := by decide +kernel
theorem dX10_law_22 : decode cX10_law 22 = .ok (.aload_n 0, 1) := by decide +kernel
theorem dX10_law_23 : decode cX10_law 23 = .ok (.iload_n 2, 1) := by decide +kernel
theorem dX10_law_24 : decode cX10_law 24 = .ok (.invokevirtual 394, 3) := by decide +kernel
theorem dX10_law_27 : decode cX10_law 27 = .ok (.ifCond .ne 7, 3) := by decide +kernel
theorem dX10_law_30 : decode cX10_law 30 = .ok (.ldc2_w 402, 3) := by decide +kernel
theorem dX10_law_33 : decode cX10_law 33 = .ok (.lreturn, 1) := by decide +kernel
theorem dX10_law_34 : decode cX10_law 34 = .ok (.aload_n 0, 1) := by decide +kernel
theorem dX10_law_35 : decode cX10_law 35 = .ok (.getfield 99, 3) := by decide +kernel
theorem dX10_law_38 : decode cX10_law 38 = .ok (.iload_n 2, 1) := by decide +kernel
theorem dX10_law_39 : decode cX10_law 39 = .ok (.iaload, 1) := by decide +kernel
theorem dX10_law_40 : decode cX10_law 40 = .ok (.aload_n 0, 1) := by decide +kernel
theorem dX10_law_41 : decode cX10_law 41 = .ok (.getfield 96, 3) := by decide +kernel
theorem dX10_law_44 : decode cX10_law 44 = .ok (.iload_n 2, 1) := by decide +kernel
theorem dX10_law_45 : decode cX10_law 45 = .ok (.iaload, 1) := by decide +kernel
theorem dX10_law_46 : decode cX10_law 46 = .ok (.iconst 1, 1) := by decide +kernel
theorem dX10_law_47 : decode cX10_law 47 = .ok (.if_icmp .ne 23, 3) := by decide +kernel
theorem dX10_law_50 : decode cX10_law 50 = .ok (.aload_n 0, 1) := by decide +kernel
theorem dX10_law_51 : decode cX10_law 51 = .ok (.getfield 78, 3) := by decide +kernel
theorem dX10_law_54 : decode cX10_law 54 = .ok (.iload_n 2, 1) := by decide +kernel
theorem dX10_law_55 : decode cX10_law 55 = .ok (.iaload, 1) := by decide +kernel
theorem dX10_law_56 : decode cX10_law 56 = .ok (.aload_n 0, 1) := by decide +kernel
theorem dX10_law_57 : decode cX10_law 57 = .ok (.iconst 0, 1) := by decide +kernel
theorem dX10_law_58 : decode cX10_law 58 = .ok (.iload_n 2, 1) := by decide +kernel
theorem dX10_law_59 : decode cX10_law 59 = .ok (.aload_n 0, 1) := by decide +kernel
theorem dX10_law_60 : decode cX10_law 60 = .ok (.getfield 34, 3) := by decide +kernel
theorem dX10_law_63 : decode cX10_law 63 = .ok (.invokevirtual 355, 3) := by decide +kernel
theorem dX10_law_66 : decode cX10_law 66 = .ok (.iadd, 1) := by decide +kernel
theorem dX10_law_67 : decode cX10_law 67 = .ok (.goto 4, 3) := by decide +kernel
theorem dX10_law_70 : decode cX10_law 70 = .ok (.iconst 0, 1) := by decide +kernel
theorem dX10_law_71 : decode cX10_law 71 = .ok (.iadd, 1) := by decide +kernel
theorem dX10_law_72 : decode cX10_law 72 = .ok (.istore_n 3, 1) := by decide +kernel
theorem dX10_law_73 : decode cX10_law 73 = .ok (.aload_n 0, 1) := by decide +kernel
theorem dX10_law_74 : decode cX10_law 74 = .ok (.iconst 0, 1) := by decide +kernel
theorem dX10_law_75 : decode cX10_law 75 = .ok (.iload_n 2, 1) := by decide +kernel
theorem dX10_law_76 : decode cX10_law 76 = .ok (.iload_n 3, 1) := by decide +kernel
theorem dX10_law_77 : decode cX10_law 77 = .ok (.invokevirtual 363, 3) := by decide +kernel
theorem dX10_law_80 : decode cX10_law 80 = .ok (.aload_n 0, 1) := by decide +kernel
theorem dX10_law_81 : decode cX10_law 81 = .ok (.iload_n 1, 1) := by decide +kernel
theorem dX10_law_82 : decode cX10_law 82 = .ok (.invokevirtual 346, 3) := by decide +kernel
theorem dX10_law_85 : decode cX10_law 85 = .ok (.ifCond .eq 12, 3) := by decide +kernel
theorem dX10_law_88 : decode cX10_law 88 = .ok (.aload_n 0, 1) := by decide +kernel
theorem dX10_law_89 : decode cX10_law 89 = .ok (.getfield 63, 3) := by decide +kernel
theorem dX10_law_92 : decode cX10_law 92 = .ok (.iconst 0, 1) := by decide +kernel
theorem dX10_law_93 : decode cX10_law 93 = .ok (.laload, 1) := by decide +kernel
theorem dX10_law_94 : decode cX10_law 94 = .ok (.goto 6, 3) := by decide +kernel
theorem dX10_law_97 : decode cX10_law 97 = .ok (.ldc2_w 402, 3) := by decide +kernel
theorem dX10_law_100 : decode cX10_law 100 = .ok (.lreturn, 1) := by decide +kernel
theorem dX10_keepNow_0 : decode cX10_keepNow 0 = .ok (.aload_n 0, 1) := by decide +kernel
theorem dX10_keepNow_1 : decode cX10_keepNow 1 = .ok (.getfield 305, 3) := by decide +kernel
theorem dX10_keepNow_4 : decode cX10_keepNow 4 = .ok (.bipush 20, 2) := by decide +kernel
theorem dX10_keepNow_6 : decode cX10_keepNow 6 = .ok (.if_icmp .ne 39, 3) := by decide +kernel
theorem dX10_keepNow_9 : decode cX10_keepNow 9 = .ok (.iconst 1, 1) := by decide +kernel
theorem dX10_keepNow_10 : decode cX10_keepNow 10 = .ok (.istore_n 1, 1) := by decide +kernel
theorem dX10_keepNow_11 : decode cX10_keepNow 11 = .ok (.iload_n 1, 1) := by decide +kernel
theorem dX10_keepNow_12 : decode cX10_keepNow 12 = .ok (.bipush 20, 2) := by decide +kernel
theorem dX10_keepNow_14 : decode cX10_keepNow 14 = .ok (.if_icmp .ge 21, 3) := by decide +kernel
theorem dX10_keepNow_17 : decode cX10_keepNow 17 = .ok (.aload_n 0, 1) := by decide +kernel
theorem dX10_keepNow_18 : decode cX10_keepNow 18 = .ok (.iconst 3, 1) := by decide +kernel
theorem dX10_keepNow_19 : decode cX10_keepNow 19 = .ok (.iload_n 1, 1) := by decide +kernel
theorem dX10_keepNow_20 : decode cX10_keepNow 20 = .ok (.iadd, 1) := by decide +kernel
theorem dX10_keepNow_21 : decode cX10_keepNow 21 = .ok (.iconst 1, 1) := by decide +kernel
theorem dX10_keepNow_22 : decode cX10_keepNow 22 = .ok (.isub, 1) := by decide +kernel
theorem dX10_keepNow_23 : decode cX10_keepNow 23 = .ok (.iconst 3, 1) := by decide +kernel
theorem dX10_keepNow_24 : decode cX10_keepNow 24 = .ok (.iload_n 1, 1) := by decide +kernel
theorem dX10_keepNow_25 : decode cX10_keepNow 25 = .ok (.iadd, 1) := by decide +kernel
theorem dX10_keepNow_26 : decode cX10_keepNow 26 = .ok (.invokevirtual 387, 3) := by decide +kernel
theorem dX10_keepNow_29 : decode cX10_keepNow 29 = .ok (.iinc 1 1, 3) := by decide +kernel
theorem dX10_keepNow_32 : decode cX10_keepNow 32 = .ok (.goto (-21), 3) := by decide +kernel
theorem dX10_keepNow_35 : decode cX10_keepNow 35 = .ok (.aload_n 0, 1) := by decide +kernel
theorem dX10_keepNow_36 : decode cX10_keepNow 36 = .ok (.dup, 1) := by decide +kernel
theorem dX10_keepNow_37 : decode cX10_keepNow 37 = .ok (.getfield 305, 3) := by decide +kernel
theorem dX10_keepNow_40 : decode cX10_keepNow 40 = .ok (.iconst 1, 1) := by decide +kernel
theorem dX10_keepNow_41 : decode cX10_keepNow 41 = .ok (.isub, 1) := by decide +kernel
theorem dX10_keepNow_42 : decode cX10_keepNow 42 = .ok (.putfield 305, 3) := by decide +kernel
theorem dX10_keepNow_45 : decode cX10_keepNow 45 = .ok (.aload_n 0, 1) := by decide +kernel
theorem dX10_keepNow_46 : decode cX10_keepNow 46 = .ok (.iconst 3, 1) := by decide +kernel
theorem dX10_keepNow_47 : decode cX10_keepNow 47 = .ok (.aload_n 0, 1) := by decide +kernel
theorem dX10_keepNow_48 : decode cX10_keepNow 48 = .ok (.getfield 305, 3) := by decide +kernel
theorem dX10_keepNow_51 : decode cX10_keepNow 51 = .ok (.iadd, 1) := by decide +kernel
theorem dX10_keepNow_52 : decode cX10_keepNow 52 = .ok (.iconst 0, 1) := by decide +kernel
theorem dX10_keepNow_53 : decode cX10_keepNow 53 = .ok (.invokevirtual 387, 3) := by decide +kernel
theorem dX10_keepNow_56 : decode cX10_keepNow 56 = .ok (.aload_n 0, 1) := by decide +kernel
theorem dX10_keepNow_57 : decode cX10_keepNow 57 = .ok (.dup, 1) := by decide +kernel
theorem dX10_keepNow_58 : decode cX10_keepNow 58 = .ok (.getfield 305, 3) := by decide +kernel
theorem dX10_keepNow_61 : decode cX10_keepNow 61 = .ok (.iconst 1, 1) := by decide +kernel
theorem dX10_keepNow_62 : decode cX10_keepNow 62 = .ok (.iadd, 1) := by decide +kernel
theorem dX10_keepNow_63 : decode cX10_keepNow 63 = .ok (.putfield 305, 3) := by decide +kernel
theorem dX10_keepNow_66 : decode cX10_keepNow 66 = .ok (.return_, 1) := by decide +kernel
theorem dX10_wear_0 : decode cX10_wear 0 = .ok (.aload_n 0, 1) := by decide +kernel
theorem dX10_wear_1 : decode cX10_wear 1 = .ok (.iconst 0, 1) := by decide +kernel
theorem dX10_wear_2 : decode cX10_wear 2 = .ok (.putfield 145, 3) := by decide +kernel
theorem dX10_wear_5 : decode cX10_wear 5 = .ok (.aload_n 0, 1) := by decide +kernel
theorem dX10_wear_6 : decode cX10_wear 6 = .ok (.iload_n 1, 1) := by decide +kernel
theorem dX10_wear_7 : decode cX10_wear 7 = .ok (.invokevirtual 394, 3) := by decide +kernel
theorem dX10_wear_10 : decode cX10_wear 10 = .ok (.ifCond .eq 22, 3) := by decide +kernel
theorem dX10_wear_13 : decode cX10_wear 13 = .ok (.aload_n 0, 1) := by decide +kernel
theorem dX10_wear_14 : decode cX10_wear 14 = .ok (.getfield 96, 3) := by decide +kernel
theorem dX10_wear_17 : decode cX10_wear 17 = .ok (.iload_n 1, 1) := by decide +kernel
theorem dX10_wear_18 : decode cX10_wear 18 = .ok (.iaload, 1) := by decide +kernel
theorem dX10_wear_19 : decode cX10_wear 19 = .ok (.iconst 1, 1) := by decide +kernel
theorem dX10_wear_20 : decode cX10_wear 20 = .ok (.if_icmp .ne 7, 3) := by decide +kernel
theorem dX10_wear_23 : decode cX10_wear 23 = .ok (.iconst 1, 1) := by decide +kernel
theorem dX10_wear_24 : decode cX10_wear 24 = .ok (.goto 4, 3) := by decide +kernel
theorem dX10_wear_27 : decode cX10_wear 27 = .ok (.iconst 0, 1) := by decide +kernel
theorem dX10_wear_28 : decode cX10_wear 28 = .ok (.iload_n 2, 1) := by decide +kernel
theorem dX10_wear_29 : decode cX10_wear 29 = .ok (.if_icmp .ne 5, 3) := by decide +kernel
theorem dX10_wear_32 : decode cX10_wear 32 = .ok (.iconst 0, 1) := by decide +kernel
theorem dX10_wear_33 : decode cX10_wear 33 = .ok (.ireturn, 1) := by decide +kernel
theorem dX10_wear_34 : decode cX10_wear 34 = .ok (.aload_n 0, 1) := by decide +kernel
theorem dX10_wear_35 : decode cX10_wear 35 = .ok (.invokevirtual 404, 3) := by decide +kernel
theorem dX10_wear_38 : decode cX10_wear 38 = .ok (.aload_n 0, 1) := by decide +kernel
theorem dX10_wear_39 : decode cX10_wear 39 = .ok (.getfield 96, 3) := by decide +kernel
theorem dX10_wear_42 : decode cX10_wear 42 = .ok (.iload_n 1, 1) := by decide +kernel
theorem dX10_wear_43 : decode cX10_wear 43 = .ok (.iload_n 2, 1) := by decide +kernel
theorem dX10_wear_44 : decode cX10_wear 44 = .ok (.ifCond .eq 7, 3) := by decide +kernel
theorem dX10_wear_47 : decode cX10_wear 47 = .ok (.iconst 1, 1) := by decide +kernel
theorem dX10_wear_48 : decode cX10_wear 48 = .ok (.goto 4, 3) := by decide +kernel
theorem dX10_wear_51 : decode cX10_wear 51 = .ok (.iconst 0, 1) := by decide +kernel
theorem dX10_wear_52 : decode cX10_wear 52 = .ok (.iastore, 1) := by decide +kernel
theorem dX10_wear_53 : decode cX10_wear 53 = .ok (.iconst 1, 1) := by decide +kernel
theorem dX10_wear_54 : decode cX10_wear 54 = .ok (.ireturn, 1) := by decide +kernel
theorem dX10_goal_0 : decode cX10_goal 0 = .ok (.aload_n 0, 1) := by decide +kernel
theorem dX10_goal_1 : decode cX10_goal 1 = .ok (.iconst 0, 1) := by decide +kernel
theorem dX10_goal_2 : decode cX10_goal 2 = .ok (.putfield 145, 3) := by decide +kernel
theorem dX10_goal_5 : decode cX10_goal 5 = .ok (.aload_n 0, 1) := by decide +kernel
theorem dX10_goal_6 : decode cX10_goal 6 = .ok (.iload_n 1, 1) := by decide +kernel
theorem dX10_goal_7 : decode cX10_goal 7 = .ok (.invokevirtual 394, 3) := by decide +kernel
theorem dX10_goal_10 : decode cX10_goal 10 = .ok (.ifCond .eq 23, 3) := by decide +kernel
theorem dX10_goal_13 : decode cX10_goal 13 = .ok (.iload_n 2, 1) := by decide +kernel
theorem dX10_goal_14 : decode cX10_goal 14 = .ok (.ifCond .lt 19, 3) := by decide +kernel
theorem dX10_goal_17 : decode cX10_goal 17 = .ok (.iload_n 2, 1) := by decide +kernel
theorem dX10_goal_18 : decode cX10_goal 18 = .ok (.bipush 99, 2) := by decide +kernel
theorem dX10_goal_20 : decode cX10_goal 20 = .ok (.if_icmp .gt 13, 3) := by decide +kernel
theorem dX10_goal_23 : decode cX10_goal 23 = .ok (.aload_n 0, 1) := by decide +kernel
theorem dX10_goal_24 : decode cX10_goal 24 = .ok (.getfield 75, 3) := by decide +kernel
theorem dX10_goal_27 : decode cX10_goal 27 = .ok (.iload_n 1, 1) := by decide +kernel
theorem dX10_goal_28 : decode cX10_goal 28 = .ok (.iaload, 1) := by decide +kernel
theorem dX10_goal_29 : decode cX10_goal 29 = .ok (.iload_n 2, 1) := by decide +kernel
theorem dX10_goal_30 : decode cX10_goal 30 = .ok (.if_icmp .ne 5, 3) := by decide +kernel
theorem dX10_goal_33 : decode cX10_goal 33 = .ok (.iconst 0, 1) := by decide +kernel
theorem dX10_goal_34 : decode cX10_goal 34 = .ok (.ireturn, 1) := by decide +kernel
theorem dX10_goal_35 : decode cX10_goal 35 = .ok (.aload_n 0, 1) := by decide +kernel
theorem dX10_goal_36 : decode cX10_goal 36 = .ok (.invokevirtual 404, 3) := by decide +kernel
theorem dX10_goal_39 : decode cX10_goal 39 = .ok (.aload_n 0, 1) := by decide +kernel
theorem dX10_goal_40 : decode cX10_goal 40 = .ok (.getfield 75, 3) := by decide +kernel
theorem dX10_goal_43 : decode cX10_goal 43 = .ok (.iload_n 1, 1) := by decide +kernel
theorem dX10_goal_44 : decode cX10_goal 44 = .ok (.iload_n 2, 1) := by decide +kernel
theorem dX10_goal_45 : decode cX10_goal 45 = .ok (.iastore, 1) := by decide +kernel
theorem dX10_goal_46 : decode cX10_goal 46 = .ok (.iconst 1, 1) := by decide +kernel
theorem dX10_goal_47 : decode cX10_goal 47 = .ok (.ireturn, 1) := by decide +kernel
theorem dX10_plan_0 : decode cX10_plan 0 = .ok (.aload_n 0, 1) := by decide +kernel
theorem dX10_plan_1 : decode cX10_plan 1 = .ok (.iconst 0, 1) := by decide +kernel
theorem dX10_plan_2 : decode cX10_plan 2 = .ok (.putfield 145, 3) := by decide +kernel
theorem dX10_plan_5 : decode cX10_plan 5 = .ok (.aload_n 0, 1) := by decide +kernel
theorem dX10_plan_6 : decode cX10_plan 6 = .ok (.iload_n 1, 1) := by decide +kernel
theorem dX10_plan_7 : decode cX10_plan 7 = .ok (.invokevirtual 394, 3) := by decide +kernel
theorem dX10_plan_10 : decode cX10_plan 10 = .ok (.ifCond .eq 36, 3) := by decide +kernel
theorem dX10_plan_13 : decode cX10_plan 13 = .ok (.aload_n 0, 1) := by decide +kernel
theorem dX10_plan_14 : decode cX10_plan 14 = .ok (.iload_n 2, 1) := by decide +kernel
theorem dX10_plan_15 : decode cX10_plan 15 = .ok (.invokevirtual 397, 3) := by decide +kernel
theorem dX10_plan_18 : decode cX10_plan 18 = .ok (.ifCond .eq 28, 3) := by decide +kernel
theorem dX10_plan_21 : decode cX10_plan 21 = .ok (.iload_n 3, 1) := by decide +kernel
theorem dX10_plan_22 : decode cX10_plan 22 = .ok (.ifCond .lt 24, 3) := by decide +kernel
theorem dX10_plan_25 : decode cX10_plan 25 = .ok (.iload_n 3, 1) := by decide +kernel
theorem dX10_plan_26 : decode cX10_plan 26 = .ok (.bipush 9, 2) := by decide +kernel
theorem dX10_plan_28 : decode cX10_plan 28 = .ok (.if_icmp .gt 18, 3) := by decide +kernel
theorem dX10_plan_31 : decode cX10_plan 31 = .ok (.aload_n 0, 1) := by decide +kernel
theorem dX10_plan_32 : decode cX10_plan 32 = .ok (.getfield 108, 3) := by decide +kernel
theorem dX10_plan_35 : decode cX10_plan 35 = .ok (.bipush 6, 2) := by decide +kernel
theorem dX10_plan_37 : decode cX10_plan 37 = .ok (.iload_n 1, 1) := by decide +kernel
theorem dX10_plan_38 : decode cX10_plan 38 = .ok (.imul, 1) := by decide +kernel
theorem dX10_plan_39 : decode cX10_plan 39 = .ok (.iload_n 2, 1) := by decide +kernel
theorem dX10_plan_40 : decode cX10_plan 40 = .ok (.iadd, 1) := by decide +kernel
theorem dX10_plan_41 : decode cX10_plan 41 = .ok (.iaload, 1) := by decide +kernel
theorem dX10_plan_42 : decode cX10_plan 42 = .ok (.iload_n 3, 1) := by decide +kernel
theorem dX10_plan_43 : decode cX10_plan 43 = .ok (.if_icmp .ne 5, 3) := by decide +kernel
theorem dX10_plan_46 : decode cX10_plan 46 = .ok (.iconst 0, 1) := by decide +kernel
theorem dX10_plan_47 : decode cX10_plan 47 = .ok (.ireturn, 1) := by decide +kernel
theorem dX10_plan_48 : decode cX10_plan 48 = .ok (.aload_n 0, 1) := by decide +kernel
theorem dX10_plan_49 : decode cX10_plan 49 = .ok (.invokevirtual 404, 3) := by decide +kernel
theorem dX10_plan_52 : decode cX10_plan 52 = .ok (.aload_n 0, 1) := by decide +kernel
theorem dX10_plan_53 : decode cX10_plan 53 = .ok (.getfield 108, 3) := by decide +kernel
theorem dX10_plan_56 : decode cX10_plan 56 = .ok (.bipush 6, 2) := by decide +kernel
theorem dX10_plan_58 : decode cX10_plan 58 = .ok (.iload_n 1, 1) := by decide +kernel
theorem dX10_plan_59 : decode cX10_plan 59 = .ok (.imul, 1) := by decide +kernel
theorem dX10_plan_60 : decode cX10_plan 60 = .ok (.iload_n 2, 1) := by decide +kernel
theorem dX10_plan_61 : decode cX10_plan 61 = .ok (.iadd, 1) := by decide +kernel
theorem dX10_plan_62 : decode cX10_plan 62 = .ok (.iload_n 3, 1) := by decide +kernel
theorem dX10_plan_63 : decode cX10_plan 63 = .ok (.iastore, 1) := by decide +kernel
theorem dX10_plan_64 : decode cX10_plan 64 = .ok (.iconst 1, 1) := by decide +kernel
theorem dX10_plan_65 : decode cX10_plan 65 = .ok (.ireturn, 1) := by decide +kernel
theorem dX10_lend_0 : decode cX10_lend 0 = .ok (.aload_n 0, 1) := by decide +kernel
theorem dX10_lend_1 : decode cX10_lend 1 = .ok (.iconst 0, 1) := by decide +kernel
theorem dX10_lend_2 : decode cX10_lend 2 = .ok (.putfield 145, 3) := by decide +kernel
theorem dX10_lend_5 : decode cX10_lend 5 = .ok (.aload_n 0, 1) := by decide +kernel
theorem dX10_lend_6 : decode cX10_lend 6 = .ok (.iload_n 1, 1) := by decide +kernel
theorem dX10_lend_7 : decode cX10_lend 7 = .ok (.invokevirtual 394, 3) := by decide +kernel
theorem dX10_lend_10 : decode cX10_lend 10 = .ok (.ifCond .eq 28, 3) := by decide +kernel
theorem dX10_lend_13 : decode cX10_lend 13 = .ok (.iload_n 2, 1) := by decide +kernel
theorem dX10_lend_14 : decode cX10_lend 14 = .ok (.iconst 1, 1) := by decide +kernel
theorem dX10_lend_15 : decode cX10_lend 15 = .ok (.if_icmp .lt 23, 3) := by decide +kernel
theorem dX10_lend_18 : decode cX10_lend 18 = .ok (.iload_n 2, 1) := by decide +kernel
theorem dX10_lend_19 : decode cX10_lend 19 = .ok (.bipush 99, 2) := by decide +kernel
theorem dX10_lend_21 : decode cX10_lend 21 = .ok (.if_icmp .gt 17, 3) := by decide +kernel
theorem dX10_lend_24 : decode cX10_lend 24 = .ok (.aload_n 0, 1) := by decide +kernel
theorem dX10_lend_25 : decode cX10_lend 25 = .ok (.getfield 99, 3) := by decide +kernel
theorem dX10_lend_28 : decode cX10_lend 28 = .ok (.iload_n 1, 1) := by decide +kernel
theorem dX10_lend_29 : decode cX10_lend 29 = .ok (.iaload, 1) := by decide +kernel
theorem dX10_lend_30 : decode cX10_lend 30 = .ok (.iload_n 2, 1) := by decide +kernel
theorem dX10_lend_31 : decode cX10_lend 31 = .ok (.iadd, 1) := by decide +kernel
theorem dX10_lend_32 : decode cX10_lend 32 = .ok (.sipush 999, 3) := by decide +kernel
theorem dX10_lend_35 : decode cX10_lend 35 = .ok (.if_icmp .le 5, 3) := by decide +kernel
theorem dX10_lend_38 : decode cX10_lend 38 = .ok (.iconst (-1), 1) := by decide +kernel
theorem dX10_lend_39 : decode cX10_lend 39 = .ok (.ireturn, 1) := by decide +kernel
theorem dX10_lend_40 : decode cX10_lend 40 = .ok (.aload_n 0, 1) := by decide +kernel
theorem dX10_lend_41 : decode cX10_lend 41 = .ok (.invokevirtual 404, 3) := by decide +kernel
theorem dX10_lend_44 : decode cX10_lend 44 = .ok (.aload_n 0, 1) := by decide +kernel
theorem dX10_lend_45 : decode cX10_lend 45 = .ok (.getfield 99, 3) := by decide +kernel
theorem dX10_lend_48 : decode cX10_lend 48 = .ok (.iload_n 1, 1) := by decide +kernel
theorem dX10_lend_49 : decode cX10_lend 49 = .ok (.dup2, 1) := by decide +kernel
theorem dX10_lend_50 : decode cX10_lend 50 = .ok (.iaload, 1) := by decide +kernel
theorem dX10_lend_51 : decode cX10_lend 51 = .ok (.iload_n 2, 1) := by decide +kernel
theorem dX10_lend_52 : decode cX10_lend 52 = .ok (.iadd, 1) := by decide +kernel
theorem dX10_lend_53 : decode cX10_lend 53 = .ok (.iastore, 1) := by decide +kernel
theorem dX10_lend_54 : decode cX10_lend 54 = .ok (.aload_n 0, 1) := by decide +kernel
theorem dX10_lend_55 : decode cX10_lend 55 = .ok (.getfield 99, 3) := by decide +kernel
theorem dX10_lend_58 : decode cX10_lend 58 = .ok (.iload_n 1, 1) := by decide +kernel
theorem dX10_lend_59 : decode cX10_lend 59 = .ok (.iaload, 1) := by decide +kernel
theorem dX10_lend_60 : decode cX10_lend 60 = .ok (.ireturn, 1) := by decide +kernel
theorem dX10_go_0 : decode cX10_go 0 = .ok (.aload_n 0, 1) := by decide +kernel
theorem dX10_go_1 : decode cX10_go 1 = .ok (.iconst 0, 1) := by decide +kernel
theorem dX10_go_2 : decode cX10_go 2 = .ok (.putfield 145, 3) := by decide +kernel
theorem dX10_go_5 : decode cX10_go 5 = .ok (.iload_n 1, 1) := by decide +kernel
theorem dX10_go_6 : decode cX10_go 6 = .ok (.ifCond .lt 23, 3) := by decide +kernel
theorem dX10_go_9 : decode cX10_go 9 = .ok (.iload_n 1, 1) := by decide +kernel
theorem dX10_go_10 : decode cX10_go 10 = .ok (.bipush 99, 2) := by decide +kernel
theorem dX10_go_12 : decode cX10_go 12 = .ok (.if_icmp .gt 17, 3) := by decide +kernel
theorem dX10_go_15 : decode cX10_go 15 = .ok (.aload_n 0, 1) := by decide +kernel
theorem dX10_go_16 : decode cX10_go 16 = .ok (.getfield 66, 3) := by decide +kernel
theorem dX10_go_19 : decode cX10_go 19 = .ok (.iconst 0, 1) := by decide +kernel
theorem dX10_go_20 : decode cX10_go 20 = .ok (.iaload, 1) := by decide +kernel
theorem dX10_go_21 : decode cX10_go 21 = .ok (.iload_n 1, 1) := by decide +kernel
theorem dX10_go_22 : decode cX10_go 22 = .ok (.iadd, 1) := by decide +kernel
theorem dX10_go_23 : decode cX10_go 23 = .ok (.sipush 9900, 3) := by decide +kernel
theorem dX10_go_26 : decode cX10_go 26 = .ok (.if_icmp .le 5, 3) := by decide +kernel
theorem dX10_go_29 : decode cX10_go 29 = .ok (.iconst (-1), 1) := by decide +kernel
theorem dX10_go_30 : decode cX10_go 30 = .ok (.ireturn, 1) := by decide +kernel
theorem dX10_go_31 : decode cX10_go 31 = .ok (.iload_n 1, 1) := by decide +kernel
theorem dX10_go_32 : decode cX10_go 32 = .ok (.ifCond .le 8, 3) := by decide +kernel
theorem dX10_go_35 : decode cX10_go 35 = .ok (.aload_n 0, 1) := by decide +kernel
theorem dX10_go_36 : decode cX10_go 36 = .ok (.iconst 0, 1) := by decide +kernel
theorem dX10_go_37 : decode cX10_go 37 = .ok (.putfield 305, 3) := by decide +kernel
theorem dX10_go_40 : decode cX10_go 40 = .ok (.iconst 0, 1) := by decide +kernel
theorem dX10_go_41 : decode cX10_go 41 = .ok (.istore_n 2, 1) := by decide +kernel
theorem dX10_go_42 : decode cX10_go 42 = .ok (.iload_n 2, 1) := by decide +kernel
theorem dX10_go_43 : decode cX10_go 43 = .ok (.iload_n 1, 1) := by decide +kernel
theorem dX10_go_44 : decode cX10_go 44 = .ok (.if_icmp .ge 15, 3) := by decide +kernel
theorem dX10_go_47 : decode cX10_go 47 = .ok (.aload_n 0, 1) := by decide +kernel
theorem dX10_go_48 : decode cX10_go 48 = .ok (.iconst 0, 1) := by decide +kernel
theorem dX10_go_49 : decode cX10_go 49 = .ok (.iconst 1, 1) := by decide +kernel
theorem dX10_go_50 : decode cX10_go 50 = .ok (.invokevirtual 390, 3) := by decide +kernel
theorem dX10_go_53 : decode cX10_go 53 = .ok (.iinc 2 1, 3) := by decide +kernel
theorem dX10_go_56 : decode cX10_go 56 = .ok (.goto (-14), 3) := by decide +kernel
theorem dX10_go_59 : decode cX10_go 59 = .ok (.aload_n 0, 1) := by decide +kernel
theorem dX10_go_60 : decode cX10_go 60 = .ok (.getfield 66, 3) := by decide +kernel
theorem dX10_go_63 : decode cX10_go 63 = .ok (.iconst 0, 1) := by decide +kernel
theorem dX10_go_64 : decode cX10_go 64 = .ok (.iaload, 1) := by decide +kernel
theorem dX10_go_65 : decode cX10_go 65 = .ok (.ireturn, 1) := by decide +kernel
theorem dX10_ahead_0 : decode cX10_ahead 0 = .ok (.aload_n 0, 1) := by decide +kernel
theorem dX10_ahead_1 : decode cX10_ahead 1 = .ok (.iconst 0, 1) := by decide +kernel
theorem dX10_ahead_2 : decode cX10_ahead 2 = .ok (.putfield 145, 3) := by decide +kernel
theorem dX10_ahead_5 : decode cX10_ahead 5 = .ok (.aload_n 0, 1) := by decide +kernel
theorem dX10_ahead_6 : decode cX10_ahead 6 = .ok (.iload_n 1, 1) := by decide +kernel
theorem dX10_ahead_7 : decode cX10_ahead 7 = .ok (.invokevirtual 394, 3) := by decide +kernel
theorem dX10_ahead_10 : decode cX10_ahead 10 = .ok (.ifCond .eq 22, 3) := by decide +kernel
theorem dX10_ahead_13 : decode cX10_ahead 13 = .ok (.iload_n 2, 1) := by decide +kernel
theorem dX10_ahead_14 : decode cX10_ahead 14 = .ok (.ifCond .lt 18, 3) := by decide +kernel
theorem dX10_ahead_17 : decode cX10_ahead 17 = .ok (.iload_n 2, 1) := by decide +kernel
theorem dX10_ahead_18 : decode cX10_ahead 18 = .ok (.bipush 60, 2) := by decide +kernel
theorem dX10_ahead_20 : decode cX10_ahead 20 = .ok (.if_icmp .gt 12, 3) := by decide +kernel
theorem dX10_ahead_23 : decode cX10_ahead 23 = .ok (.iload_n 3, 1) := by decide +kernel
theorem dX10_ahead_24 : decode cX10_ahead 24 = .ok (.ifCond .lt 8, 3) := by decide +kernel
theorem dX10_ahead_27 : decode cX10_ahead 27 = .ok (.iload_n 3, 1) := by decide +kernel
theorem dX10_ahead_28 : decode cX10_ahead 28 = .ok (.iconst 3, 1) := by decide +kernel
theorem dX10_ahead_29 : decode cX10_ahead 29 = .ok (.if_icmp .le 5, 3) := by decide +kernel
theorem dX10_ahead_32 : decode cX10_ahead 32 = .ok (.iconst (-1), 1) := by decide +kernel
theorem dX10_ahead_33 : decode cX10_ahead 33 = .ok (.ireturn, 1) := by decide +kernel
theorem dX10_ahead_34 : decode cX10_ahead 34 = .ok (.aload_n 0, 1) := by decide +kernel
theorem dX10_ahead_35 : decode cX10_ahead 35 = .ok (.iload_n 2, 1) := by decide +kernel
theorem dX10_ahead_36 : decode cX10_ahead 36 = .ok (.invokevirtual 407, 3) := by decide +kernel
theorem dX10_ahead_39 : decode cX10_ahead 39 = .ok (.iconst 5, 1) := by decide +kernel
theorem dX10_ahead_40 : decode cX10_ahead 40 = .ok (.iload_n 1, 1) := by decide +kernel
theorem dX10_ahead_41 : decode cX10_ahead 41 = .ok (.iadd, 1) := by decide +kernel
theorem dX10_ahead_42 : decode cX10_ahead 42 = .ok (.istore 4, 2) := by decide +kernel
theorem dX10_ahead_44 : decode cX10_ahead 44 = .ok (.iload_n 3, 1) := by decide +kernel
theorem dX10_ahead_45 : decode cX10_ahead 45 = .ok (.tableswitch 65 0 2 #[27, 42, 57], 27) := by decide +kernel
theorem dX10_ahead_72 : decode cX10_ahead 72 = .ok (.aload_n 0, 1) := by decide +kernel
theorem dX10_ahead_73 : decode cX10_ahead 73 = .ok (.getfield 93, 3) := by decide +kernel
theorem dX10_ahead_76 : decode cX10_ahead 76 = .ok (.iload 4, 2) := by decide +kernel
theorem dX10_ahead_78 : decode cX10_ahead 78 = .ok (.iaload, 1) := by decide +kernel
theorem dX10_ahead_79 : decode cX10_ahead 79 = .ok (.aload_n 0, 1) := by decide +kernel
theorem dX10_ahead_80 : decode cX10_ahead 80 = .ok (.getfield 93, 3) := by decide +kernel
theorem dX10_ahead_83 : decode cX10_ahead 83 = .ok (.iload_n 1, 1) := by decide +kernel
theorem dX10_ahead_84 : decode cX10_ahead 84 = .ok (.iaload, 1) := by decide +kernel
theorem dX10_ahead_85 : decode cX10_ahead 85 = .ok (.isub, 1) := by decide +kernel
theorem dX10_ahead_86 : decode cX10_ahead 86 = .ok (.ireturn, 1) := by decide +kernel
theorem dX10_ahead_87 : decode cX10_ahead 87 = .ok (.aload_n 0, 1) := by decide +kernel
theorem dX10_ahead_88 : decode cX10_ahead 88 = .ok (.getfield 90, 3) := by decide +kernel
theorem dX10_ahead_91 : decode cX10_ahead 91 = .ok (.iload 4, 2) := by decide +kernel
theorem dX10_ahead_93 : decode cX10_ahead 93 = .ok (.iaload, 1) := by decide +kernel
theorem dX10_ahead_94 : decode cX10_ahead 94 = .ok (.aload_n 0, 1) := by decide +kernel
theorem dX10_ahead_95 : decode cX10_ahead 95 = .ok (.getfield 90, 3) := by decide +kernel
theorem dX10_ahead_98 : decode cX10_ahead 98 = .ok (.iload_n 1, 1) := by decide +kernel
theorem dX10_ahead_99 : decode cX10_ahead 99 = .ok (.iaload, 1) := by decide +kernel
theorem dX10_ahead_100 : decode cX10_ahead 100 = .ok (.isub, 1) := by decide +kernel
theorem dX10_ahead_101 : decode cX10_ahead 101 = .ok (.ireturn, 1) := by decide +kernel
theorem dX10_ahead_102 : decode cX10_ahead 102 = .ok (.aload_n 0, 1) := by decide +kernel
theorem dX10_ahead_103 : decode cX10_ahead 103 = .ok (.getfield 81, 3) := by decide +kernel
theorem dX10_ahead_106 : decode cX10_ahead 106 = .ok (.iload 4, 2) := by decide +kernel
theorem dX10_ahead_108 : decode cX10_ahead 108 = .ok (.iaload, 1) := by decide +kernel
theorem dX10_ahead_109 : decode cX10_ahead 109 = .ok (.ireturn, 1) := by decide +kernel
theorem dX10_ahead_110 : decode cX10_ahead 110 = .ok (.aload_n 0, 1) := by decide +kernel
theorem dX10_ahead_111 : decode cX10_ahead 111 = .ok (.getfield 78, 3) := by decide +kernel
theorem dX10_ahead_114 : decode cX10_ahead 114 = .ok (.iload 4, 2) := by decide +kernel
theorem dX10_ahead_116 : decode cX10_ahead 116 = .ok (.iaload, 1) := by decide +kernel
theorem dX10_ahead_117 : decode cX10_ahead 117 = .ok (.ireturn, 1) := by decide +kernel
theorem dX10_reaches_0 : decode cX10_reaches 0 = .ok (.aload_n 0, 1) := by decide +kernel
theorem dX10_reaches_1 : decode cX10_reaches 1 = .ok (.iconst 0, 1) := by decide +kernel
theorem dX10_reaches_2 : decode cX10_reaches 2 = .ok (.putfield 145, 3) := by decide +kernel
theorem dX10_reaches_5 : decode cX10_reaches 5 = .ok (.aload_n 0, 1) := by decide +kernel
theorem dX10_reaches_6 : decode cX10_reaches 6 = .ok (.iload_n 1, 1) := by decide +kernel
theorem dX10_reaches_7 : decode cX10_reaches 7 = .ok (.invokevirtual 394, 3) := by decide +kernel
theorem dX10_reaches_10 : decode cX10_reaches 10 = .ok (.ifCond .eq 14, 3) := by decide +kernel
theorem dX10_reaches_13 : decode cX10_reaches 13 = .ok (.iload_n 2, 1) := by decide +kernel
theorem dX10_reaches_14 : decode cX10_reaches 14 = .ok (.iconst 1, 1) := by decide +kernel
theorem dX10_reaches_15 : decode cX10_reaches 15 = .ok (.if_icmp .lt 9, 3) := by decide +kernel
theorem dX10_reaches_18 : decode cX10_reaches 18 = .ok (.iload_n 2, 1) := by decide +kernel
theorem dX10_reaches_19 : decode cX10_reaches 19 = .ok (.bipush 99, 2) := by decide +kernel
theorem dX10_reaches_21 : decode cX10_reaches 21 = .ok (.if_icmp .le 5, 3) := by decide +kernel
theorem dX10_reaches_24 : decode cX10_reaches 24 = .ok (.iconst (-1), 1) := by decide +kernel
theorem dX10_reaches_25 : decode cX10_reaches 25 = .ok (.ireturn, 1) := by decide +kernel
theorem dX10_reaches_26 : decode cX10_reaches 26 = .ok (.aload_n 0, 1) := by decide +kernel
theorem dX10_reaches_27 : decode cX10_reaches 27 = .ok (.iconst 1, 1) := by decide +kernel
theorem dX10_reaches_28 : decode cX10_reaches 28 = .ok (.iconst 0, 1) := by decide +kernel
theorem dX10_reaches_29 : decode cX10_reaches 29 = .ok (.invokevirtual 387, 3) := by decide +kernel
theorem dX10_reaches_32 : decode cX10_reaches 32 = .ok (.iconst 1, 1) := by decide +kernel
theorem dX10_reaches_33 : decode cX10_reaches 33 = .ok (.istore_n 3, 1) := by decide +kernel
theorem dX10_reaches_34 : decode cX10_reaches 34 = .ok (.iload_n 3, 1) := by decide +kernel
theorem dX10_reaches_35 : decode cX10_reaches 35 = .ok (.iload_n 2, 1) := by decide +kernel
theorem dX10_reaches_36 : decode cX10_reaches 36 = .ok (.if_icmp .gt 28, 3) := by decide +kernel
theorem dX10_reaches_39 : decode cX10_reaches 39 = .ok (.aload_n 0, 1) := by decide +kernel
theorem dX10_reaches_40 : decode cX10_reaches 40 = .ok (.iconst 1, 1) := by decide +kernel
theorem dX10_reaches_41 : decode cX10_reaches 41 = .ok (.iconst 0, 1) := by decide +kernel
theorem dX10_reaches_42 : decode cX10_reaches 42 = .ok (.invokevirtual 390, 3) := by decide +kernel
theorem dX10_reaches_45 : decode cX10_reaches 45 = .ok (.aload_n 0, 1) := by decide +kernel
theorem dX10_reaches_46 : decode cX10_reaches 46 = .ok (.getfield 81, 3) := by decide +kernel
theorem dX10_reaches_49 : decode cX10_reaches 49 = .ok (.iconst 5, 1) := by decide +kernel
theorem dX10_reaches_50 : decode cX10_reaches 50 = .ok (.iload_n 1, 1) := by decide +kernel
theorem dX10_reaches_51 : decode cX10_reaches 51 = .ok (.iadd, 1) := by decide +kernel
theorem dX10_reaches_52 : decode cX10_reaches 52 = .ok (.iaload, 1) := by decide +kernel
theorem dX10_reaches_53 : decode cX10_reaches 53 = .ok (.ifCond .le 5, 3) := by decide +kernel
theorem dX10_reaches_56 : decode cX10_reaches 56 = .ok (.iload_n 3, 1) := by decide +kernel
theorem dX10_reaches_57 : decode cX10_reaches 57 = .ok (.ireturn, 1) := by decide +kernel
theorem dX10_reaches_58 : decode cX10_reaches 58 = .ok (.iinc 3 1, 3) := by decide +kernel
theorem dX10_reaches_61 : decode cX10_reaches 61 = .ok (.goto (-27), 3) := by decide +kernel
theorem dX10_reaches_64 : decode cX10_reaches 64 = .ok (.bipush (-2), 2) := by decide +kernel
theorem dX10_reaches_66 : decode cX10_reaches 66 = .ok (.ireturn, 1) := by decide +kernel
theorem dX10_longest_0 : decode cX10_longest 0 = .ok (.aload_n 0, 1) := by decide +kernel
theorem dX10_longest_1 : decode cX10_longest 1 = .ok (.iconst 0, 1) := by decide +kernel
theorem dX10_longest_2 : decode cX10_longest 2 = .ok (.putfield 145, 3) := by decide +kernel
theorem dX10_longest_5 : decode cX10_longest 5 = .ok (.aload_n 0, 1) := by decide +kernel
theorem dX10_longest_6 : decode cX10_longest 6 = .ok (.iload_n 1, 1) := by decide +kernel
theorem dX10_longest_7 : decode cX10_longest 7 = .ok (.invokevirtual 394, 3) := by decide +kernel
theorem dX10_longest_10 : decode cX10_longest 10 = .ok (.ifCond .eq 13, 3) := by decide +kernel
theorem dX10_longest_13 : decode cX10_longest 13 = .ok (.iload_n 2, 1) := by decide +kernel
theorem dX10_longest_14 : decode cX10_longest 14 = .ok (.ifCond .lt 9, 3) := by decide +kernel
theorem dX10_longest_17 : decode cX10_longest 17 = .ok (.iload_n 2, 1) := by decide +kernel
theorem dX10_longest_18 : decode cX10_longest 18 = .ok (.bipush 99, 2) := by decide +kernel
theorem dX10_longest_20 : decode cX10_longest 20 = .ok (.if_icmp .le 5, 3) := by decide +kernel
theorem dX10_longest_23 : decode cX10_longest 23 = .ok (.iconst (-1), 1) := by decide +kernel
theorem dX10_longest_24 : decode cX10_longest 24 = .ok (.ireturn, 1) := by decide +kernel
theorem dX10_longest_25 : decode cX10_longest 25 = .ok (.aload_n 0, 1) := by decide +kernel
theorem dX10_longest_26 : decode cX10_longest 26 = .ok (.getfield 81, 3) := by decide +kernel
theorem dX10_longest_29 : decode cX10_longest 29 = .ok (.iload_n 1, 1) := by decide +kernel
theorem dX10_longest_30 : decode cX10_longest 30 = .ok (.iaload, 1) := by decide +kernel
theorem dX10_longest_31 : decode cX10_longest 31 = .ok (.istore_n 3, 1) := by decide +kernel
theorem dX10_longest_32 : decode cX10_longest 32 = .ok (.aload_n 0, 1) := by decide +kernel
theorem dX10_longest_33 : decode cX10_longest 33 = .ok (.iconst 1, 1) := by decide +kernel
theorem dX10_longest_34 : decode cX10_longest 34 = .ok (.iconst 0, 1) := by decide +kernel
theorem dX10_longest_35 : decode cX10_longest 35 = .ok (.invokevirtual 387, 3) := by decide +kernel
theorem dX10_longest_38 : decode cX10_longest 38 = .ok (.iconst 0, 1) := by decide +kernel
theorem dX10_longest_39 : decode cX10_longest 39 = .ok (.istore 4, 2) := by decide +kernel
theorem dX10_longest_41 : decode cX10_longest 41 = .ok (.iload 4, 2) := by decide +kernel
theorem dX10_longest_43 : decode cX10_longest 43 = .ok (.iload_n 2, 1) := by decide +kernel
theorem dX10_longest_44 : decode cX10_longest 44 = .ok (.if_icmp .ge 28, 3) := by decide +kernel
theorem dX10_longest_47 : decode cX10_longest 47 = .ok (.aload_n 0, 1) := by decide +kernel
theorem dX10_longest_48 : decode cX10_longest 48 = .ok (.iconst 1, 1) := by decide +kernel
theorem dX10_longest_49 : decode cX10_longest 49 = .ok (.iconst 0, 1) := by decide +kernel
theorem dX10_longest_50 : decode cX10_longest 50 = .ok (.invokevirtual 390, 3) := by decide +kernel
theorem dX10_longest_53 : decode cX10_longest 53 = .ok (.iload_n 3, 1) := by decide +kernel
theorem dX10_longest_54 : decode cX10_longest 54 = .ok (.aload_n 0, 1) := by decide +kernel
theorem dX10_longest_55 : decode cX10_longest 55 = .ok (.getfield 81, 3) := by decide +kernel
theorem dX10_longest_58 : decode cX10_longest 58 = .ok (.iconst 5, 1) := by decide +kernel
theorem dX10_longest_59 : decode cX10_longest 59 = .ok (.iload_n 1, 1) := by decide +kernel
theorem dX10_longest_60 : decode cX10_longest 60 = .ok (.iadd, 1) := by decide +kernel
theorem dX10_longest_61 : decode cX10_longest 61 = .ok (.iaload, 1) := by decide +kernel
theorem dX10_longest_62 : decode cX10_longest 62 = .ok (.invokestatic 337, 3) := by decide +kernel
theorem dX10_longest_65 : decode cX10_longest 65 = .ok (.istore_n 3, 1) := by decide +kernel
theorem dX10_longest_66 : decode cX10_longest 66 = .ok (.iinc 4 1, 3) := by decide +kernel
theorem dX10_longest_69 : decode cX10_longest 69 = .ok (.goto (-28), 3) := by decide +kernel
theorem dX10_longest_72 : decode cX10_longest 72 = .ok (.iload_n 3, 1) := by decide +kernel
theorem dX10_longest_73 : decode cX10_longest 73 = .ok (.ireturn, 1) := by decide +kernel
theorem dX10_moves_0 : decode cX10_moves 0 = .ok (.aload_n 0, 1) := by decide +kernel
theorem dX10_moves_1 : decode cX10_moves 1 = .ok (.iconst 0, 1) := by decide +kernel
theorem dX10_moves_2 : decode cX10_moves 2 = .ok (.putfield 145, 3) := by decide +kernel
theorem dX10_moves_5 : decode cX10_moves 5 = .ok (.aload_n 0, 1) := by decide +kernel
theorem dX10_moves_6 : decode cX10_moves 6 = .ok (.iload_n 1, 1) := by decide +kernel
theorem dX10_moves_7 : decode cX10_moves 7 = .ok (.invokevirtual 394, 3) := by decide +kernel
theorem dX10_moves_10 : decode cX10_moves 10 = .ok (.ifCond .eq 23, 3) := by decide +kernel
theorem dX10_moves_13 : decode cX10_moves 13 = .ok (.iload_n 2, 1) := by decide +kernel
theorem dX10_moves_14 : decode cX10_moves 14 = .ok (.iconst 1, 1) := by decide +kernel
theorem dX10_moves_15 : decode cX10_moves 15 = .ok (.if_icmp .lt 18, 3) := by decide +kernel
theorem dX10_moves_18 : decode cX10_moves 18 = .ok (.iload_n 2, 1) := by decide +kernel
theorem dX10_moves_19 : decode cX10_moves 19 = .ok (.bipush 60, 2) := by decide +kernel
theorem dX10_moves_21 : decode cX10_moves 21 = .ok (.if_icmp .gt 12, 3) := by decide +kernel
theorem dX10_moves_24 : decode cX10_moves 24 = .ok (.iload_n 3, 1) := by decide +kernel
theorem dX10_moves_25 : decode cX10_moves 25 = .ok (.ifCond .lt 8, 3) := by decide +kernel
theorem dX10_moves_28 : decode cX10_moves 28 = .ok (.iload_n 3, 1) := by decide +kernel
theorem dX10_moves_29 : decode cX10_moves 29 = .ok (.iconst 1, 1) := by decide +kernel
theorem dX10_moves_30 : decode cX10_moves 30 = .ok (.if_icmp .le 5, 3) := by decide +kernel
theorem dX10_moves_33 : decode cX10_moves 33 = .ok (.iconst (-1), 1) := by decide +kernel
theorem dX10_moves_34 : decode cX10_moves 34 = .ok (.ireturn, 1) := by decide +kernel
theorem dX10_moves_35 : decode cX10_moves 35 = .ok (.iconst 0, 1) := by decide +kernel
theorem dX10_moves_36 : decode cX10_moves 36 = .ok (.istore 4, 2) := by decide +kernel
theorem dX10_moves_38 : decode cX10_moves 38 = .ok (.iconst (-1), 1) := by decide +kernel
theorem dX10_moves_39 : decode cX10_moves 39 = .ok (.istore 5, 2) := by decide +kernel
theorem dX10_moves_41 : decode cX10_moves 41 = .ok (.iconst 0, 1) := by decide +kernel
theorem dX10_moves_42 : decode cX10_moves 42 = .ok (.istore 6, 2) := by decide +kernel
theorem dX10_moves_44 : decode cX10_moves 44 = .ok (.iload 6, 2) := by decide +kernel
theorem dX10_moves_46 : decode cX10_moves 46 = .ok (.bipush 99, 2) := by decide +kernel
theorem dX10_moves_48 : decode cX10_moves 48 = .ok (.if_icmp .gt 81, 3) := by decide +kernel
theorem dX10_moves_51 : decode cX10_moves 51 = .ok (.aload_n 0, 1) := by decide +kernel
theorem dX10_moves_52 : decode cX10_moves 52 = .ok (.iconst 1, 1) := by decide +kernel
theorem dX10_moves_53 : decode cX10_moves 53 = .ok (.iconst 0, 1) := by decide +kernel
theorem dX10_moves_54 : decode cX10_moves 54 = .ok (.invokevirtual 387, 3) := by decide +kernel
theorem dX10_moves_57 : decode cX10_moves 57 = .ok (.aload_n 0, 1) := by decide +kernel
theorem dX10_moves_58 : decode cX10_moves 58 = .ok (.getfield 75, 3) := by decide +kernel
theorem dX10_moves_61 : decode cX10_moves 61 = .ok (.iconst 5, 1) := by decide +kernel
theorem dX10_moves_62 : decode cX10_moves 62 = .ok (.iload_n 1, 1) := by decide +kernel
theorem dX10_moves_63 : decode cX10_moves 63 = .ok (.iadd, 1) := by decide +kernel
theorem dX10_moves_64 : decode cX10_moves 64 = .ok (.iload 6, 2) := by decide +kernel
theorem dX10_moves_66 : decode cX10_moves 66 = .ok (.iastore, 1) := by decide +kernel
theorem dX10_moves_67 : decode cX10_moves 67 = .ok (.iconst 0, 1) := by decide +kernel
theorem dX10_moves_68 : decode cX10_moves 68 = .ok (.istore 7, 2) := by decide +kernel
theorem dX10_moves_70 : decode cX10_moves 70 = .ok (.iload 7, 2) := by decide +kernel
theorem dX10_moves_72 : decode cX10_moves 72 = .ok (.iload_n 2, 1) := by decide +kernel
theorem dX10_moves_73 : decode cX10_moves 73 = .ok (.if_icmp .ge 15, 3) := by decide +kernel
theorem dX10_moves_76 : decode cX10_moves 76 = .ok (.aload_n 0, 1) := by decide +kernel
theorem dX10_moves_77 : decode cX10_moves 77 = .ok (.iconst 1, 1) := by decide +kernel
theorem dX10_moves_78 : decode cX10_moves 78 = .ok (.iconst 0, 1) := by decide +kernel
theorem dX10_moves_79 : decode cX10_moves 79 = .ok (.invokevirtual 390, 3) := by decide +kernel
theorem dX10_moves_82 : decode cX10_moves 82 = .ok (.iinc 7 1, 3) := by decide +kernel
theorem dX10_moves_85 : decode cX10_moves 85 = .ok (.goto (-15), 3) := by decide +kernel
theorem dX10_moves_88 : decode cX10_moves 88 = .ok (.aload_n 0, 1) := by decide +kernel
theorem dX10_moves_89 : decode cX10_moves 89 = .ok (.getfield 90, 3) := by decide +kernel
theorem dX10_moves_92 : decode cX10_moves 92 = .ok (.iconst 5, 1) := by decide +kernel
theorem dX10_moves_93 : decode cX10_moves 93 = .ok (.iload_n 1, 1) := by decide +kernel
theorem dX10_moves_94 : decode cX10_moves 94 = .ok (.iadd, 1) := by decide +kernel
theorem dX10_moves_95 : decode cX10_moves 95 = .ok (.iaload, 1) := by decide +kernel
theorem dX10_moves_96 : decode cX10_moves 96 = .ok (.aload_n 0, 1) := by decide +kernel
theorem dX10_moves_97 : decode cX10_moves 97 = .ok (.getfield 90, 3) := by decide +kernel
theorem dX10_moves_100 : decode cX10_moves 100 = .ok (.iload_n 1, 1) := by decide +kernel
theorem dX10_moves_101 : decode cX10_moves 101 = .ok (.iaload, 1) := by decide +kernel
theorem dX10_moves_102 : decode cX10_moves 102 = .ok (.isub, 1) := by decide +kernel
theorem dX10_moves_103 : decode cX10_moves 103 = .ok (.istore 7, 2) := by decide +kernel
theorem dX10_moves_105 : decode cX10_moves 105 = .ok (.iload 7, 2) := by decide +kernel
theorem dX10_moves_107 : decode cX10_moves 107 = .ok (.iload 5, 2) := by decide +kernel
theorem dX10_moves_109 : decode cX10_moves 109 = .ok (.if_icmp .gt 6, 3) := by decide +kernel
theorem dX10_moves_112 : decode cX10_moves 112 = .ok (.goto 11, 3) := by decide +kernel
theorem dX10_moves_115 : decode cX10_moves 115 = .ok (.iload 6, 2) := by decide +kernel
theorem dX10_moves_117 : decode cX10_moves 117 = .ok (.istore 4, 2) := by decide +kernel
theorem dX10_moves_119 : decode cX10_moves 119 = .ok (.iload 7, 2) := by decide +kernel
theorem dX10_moves_121 : decode cX10_moves 121 = .ok (.istore 5, 2) := by decide +kernel
theorem dX10_moves_123 : decode cX10_moves 123 = .ok (.iinc 6 1, 3) := by decide +kernel
theorem dX10_moves_126 : decode cX10_moves 126 = .ok (.goto (-82), 3) := by decide +kernel
theorem dX10_moves_129 : decode cX10_moves 129 = .ok (.iload_n 3, 1) := by decide +kernel
theorem dX10_moves_130 : decode cX10_moves 130 = .ok (.ifCond .ne 8, 3) := by decide +kernel
theorem dX10_moves_133 : decode cX10_moves 133 = .ok (.iload 4, 2) := by decide +kernel
theorem dX10_moves_135 : decode cX10_moves 135 = .ok (.goto 5, 3) := by decide +kernel
theorem dX10_moves_138 : decode cX10_moves 138 = .ok (.iload 5, 2) := by decide +kernel
theorem dX10_moves_140 : decode cX10_moves 140 = .ok (.ireturn, 1) := by decide +kernel
theorem dX10_fives_0 : decode cX10_fives 0 = .ok (.iconst 1, 1) := by decide +kernel
theorem dX10_fives_1 : decode cX10_fives 1 = .ok (.istore_n 1, 1) := by decide +kernel
theorem dX10_fives_2 : decode cX10_fives 2 = .ok (.iconst 0, 1) := by decide +kernel
theorem dX10_fives_3 : decode cX10_fives 3 = .ok (.istore_n 2, 1) := by decide +kernel
theorem dX10_fives_4 : decode cX10_fives 4 = .ok (.iload_n 2, 1) := by decide +kernel
theorem dX10_fives_5 : decode cX10_fives 5 = .ok (.iload_n 0, 1) := by decide +kernel
theorem dX10_fives_6 : decode cX10_fives 6 = .ok (.if_icmp .ge 13, 3) := by decide +kernel
theorem dX10_fives_9 : decode cX10_fives 9 = .ok (.iload_n 1, 1) := by decide +kernel
theorem dX10_fives_10 : decode cX10_fives 10 = .ok (.iconst 5, 1) := by decide +kernel
theorem dX10_fives_11 : decode cX10_fives 11 = .ok (.imul, 1) := by decide +kernel
theorem dX10_fives_12 : decode cX10_fives 12 = .ok (.istore_n 1, 1) := by decide +kernel
theorem dX10_fives_13 : decode cX10_fives 13 = .ok (.iinc 2 1, 3) := by decide +kernel
theorem dX10_fives_16 : decode cX10_fives 16 = .ok (.goto (-12), 3) := by decide +kernel
theorem dX10_fives_19 : decode cX10_fives 19 = .ok (.iload_n 1, 1) := by decide +kernel
theorem dX10_fives_20 : decode cX10_fives 20 = .ok (.ireturn, 1) := by decide +kernel
theorem dX10_deeds_0 : decode cX10_deeds 0 = .ok (.aload_n 0, 1) := by decide +kernel
theorem dX10_deeds_1 : decode cX10_deeds 1 = .ok (.iconst 0, 1) := by decide +kernel
theorem dX10_deeds_2 : decode cX10_deeds 2 = .ok (.putfield 145, 3) := by decide +kernel
theorem dX10_deeds_5 : decode cX10_deeds 5 = .ok (.aload_n 0, 1) := by decide +kernel
theorem dX10_deeds_6 : decode cX10_deeds 6 = .ok (.iload_n 1, 1) := by decide +kernel
theorem dX10_deeds_7 : decode cX10_deeds 7 = .ok (.invokevirtual 394, 3) := by decide +kernel
theorem dX10_deeds_10 : decode cX10_deeds 10 = .ok (.ifCond .eq 12, 3) := by decide +kernel
theorem dX10_deeds_13 : decode cX10_deeds 13 = .ok (.iload_n 2, 1) := by decide +kernel
theorem dX10_deeds_14 : decode cX10_deeds 14 = .ok (.ifCond .lt 8, 3) := by decide +kernel
theorem dX10_deeds_17 : decode cX10_deeds 17 = .ok (.iload_n 2, 1) := by decide +kernel
theorem dX10_deeds_18 : decode cX10_deeds 18 = .ok (.iconst 4, 1) := by decide +kernel
theorem dX10_deeds_19 : decode cX10_deeds 19 = .ok (.if_icmp .le 5, 3) := by decide +kernel
theorem dX10_deeds_22 : decode cX10_deeds 22 = .ok (.iconst (-1), 1) := by decide +kernel
theorem dX10_deeds_23 : decode cX10_deeds 23 = .ok (.ireturn, 1) := by decide +kernel
theorem dX10_deeds_24 : decode cX10_deeds 24 = .ok (.iconst 4, 1) := by decide +kernel
theorem dX10_deeds_25 : decode cX10_deeds 25 = .ok (.aload_n 0, 1) := by decide +kernel
theorem dX10_deeds_26 : decode cX10_deeds 26 = .ok (.getfield 13, 3) := by decide +kernel
theorem dX10_deeds_29 : decode cX10_deeds 29 = .ok (.iconst 1, 1) := by decide +kernel
theorem dX10_deeds_30 : decode cX10_deeds 30 = .ok (.iaload, 1) := by decide +kernel
theorem dX10_deeds_31 : decode cX10_deeds 31 = .ok (.invokestatic 371, 3) := by decide +kernel
theorem dX10_deeds_34 : decode cX10_deeds 34 = .ok (.istore_n 3, 1) := by decide +kernel
theorem dX10_deeds_35 : decode cX10_deeds 35 = .ok (.iload_n 2, 1) := by decide +kernel
theorem dX10_deeds_36 : decode cX10_deeds 36 = .ok (.iconst 4, 1) := by decide +kernel
theorem dX10_deeds_37 : decode cX10_deeds 37 = .ok (.if_icmp .ge 11, 3) := by decide +kernel
theorem dX10_deeds_40 : decode cX10_deeds 40 = .ok (.iload_n 2, 1) := by decide +kernel
theorem dX10_deeds_41 : decode cX10_deeds 41 = .ok (.iload_n 3, 1) := by decide +kernel
theorem dX10_deeds_42 : decode cX10_deeds 42 = .ok (.if_icmp .lt 6, 3) := by decide +kernel
theorem dX10_deeds_45 : decode cX10_deeds 45 = .ok (.bipush (-2), 2) := by decide +kernel
theorem dX10_deeds_47 : decode cX10_deeds 47 = .ok (.ireturn, 1) := by decide +kernel
theorem dX10_deeds_48 : decode cX10_deeds 48 = .ok (.iconst (-1), 1) := by decide +kernel
theorem dX10_deeds_49 : decode cX10_deeds 49 = .ok (.istore 4, 2) := by decide +kernel
theorem dX10_deeds_51 : decode cX10_deeds 51 = .ok (.iconst 0, 1) := by decide +kernel
theorem dX10_deeds_52 : decode cX10_deeds 52 = .ok (.istore 5, 2) := by decide +kernel
theorem dX10_deeds_54 : decode cX10_deeds 54 = .ok (.iconst 0, 1) := by decide +kernel
theorem dX10_deeds_55 : decode cX10_deeds 55 = .ok (.istore 6, 2) := by decide +kernel
theorem dX10_deeds_57 : decode cX10_deeds 57 = .ok (.iload 6, 2) := by decide +kernel
theorem dX10_deeds_59 : decode cX10_deeds 59 = .ok (.iload_n 3, 1) := by decide +kernel
theorem dX10_deeds_60 : decode cX10_deeds 60 = .ok (.invokestatic 410, 3) := by decide +kernel
theorem dX10_deeds_63 : decode cX10_deeds 63 = .ok (.if_icmp .ge 127, 3) := by decide +kernel
theorem dX10_deeds_66 : decode cX10_deeds 66 = .ok (.aload_n 0, 1) := by decide +kernel
theorem dX10_deeds_67 : decode cX10_deeds 67 = .ok (.getfield 78, 3) := by decide +kernel
theorem dX10_deeds_70 : decode cX10_deeds 70 = .ok (.iload_n 1, 1) := by decide +kernel
theorem dX10_deeds_71 : decode cX10_deeds 71 = .ok (.iaload, 1) := by decide +kernel
theorem dX10_deeds_72 : decode cX10_deeds 72 = .ok (.aload_n 0, 1) := by decide +kernel
theorem dX10_deeds_73 : decode cX10_deeds 73 = .ok (.iconst 0, 1) := by decide +kernel
theorem dX10_deeds_74 : decode cX10_deeds 74 = .ok (.iload_n 1, 1) := by decide +kernel
theorem dX10_deeds_75 : decode cX10_deeds 75 = .ok (.aload_n 0, 1) := by decide +kernel
theorem dX10_deeds_76 : decode cX10_deeds 76 = .ok (.getfield 34, 3) := by decide +kernel
theorem dX10_deeds_79 : decode cX10_deeds 79 = .ok (.invokevirtual 355, 3) := by decide +kernel
theorem dX10_deeds_82 : decode cX10_deeds 82 = .ok (.iadd, 1) := by decide +kernel
theorem dX10_deeds_83 : decode cX10_deeds 83 = .ok (.istore 7, 2) := by decide +kernel
theorem dX10_deeds_85 : decode cX10_deeds 85 = .ok (.iconst 0, 1) := by decide +kernel
theorem dX10_deeds_86 : decode cX10_deeds 86 = .ok (.istore 8, 2) := by decide +kernel
theorem dX10_deeds_88 : decode cX10_deeds 88 = .ok (.iconst 0, 1) := by decide +kernel
theorem dX10_deeds_89 : decode cX10_deeds 89 = .ok (.istore 9, 2) := by decide +kernel
theorem dX10_deeds_91 : decode cX10_deeds 91 = .ok (.iload 9, 2) := by decide +kernel
theorem dX10_deeds_93 : decode cX10_deeds 93 = .ok (.iload_n 3, 1) := by decide +kernel
theorem dX10_deeds_94 : decode cX10_deeds 94 = .ok (.if_icmp .ge 55, 3) := by decide +kernel
theorem dX10_deeds_97 : decode cX10_deeds 97 = .ok (.iload 6, 2) := by decide +kernel
theorem dX10_deeds_99 : decode cX10_deeds 99 = .ok (.iload_n 3, 1) := by decide +kernel
theorem dX10_deeds_100 : decode cX10_deeds 100 = .ok (.iconst 1, 1) := by decide +kernel
theorem dX10_deeds_101 : decode cX10_deeds 101 = .ok (.isub, 1) := by decide +kernel
theorem dX10_deeds_102 : decode cX10_deeds 102 = .ok (.iload 9, 2) := by decide +kernel
theorem dX10_deeds_104 : decode cX10_deeds 104 = .ok (.isub, 1) := by decide +kernel
theorem dX10_deeds_105 : decode cX10_deeds 105 = .ok (.invokestatic 410, 3) := by decide +kernel
theorem dX10_deeds_108 : decode cX10_deeds 108 = .ok (.idiv, 1) := by decide +kernel
theorem dX10_deeds_109 : decode cX10_deeds 109 = .ok (.iconst 5, 1) := by decide +kernel
theorem dX10_deeds_110 : decode cX10_deeds 110 = .ok (.irem, 1) := by decide +kernel
theorem dX10_deeds_111 : decode cX10_deeds 111 = .ok (.istore 10, 2) := by decide +kernel
theorem dX10_deeds_113 : decode cX10_deeds 113 = .ok (.iload 7, 2) := by decide +kernel
theorem dX10_deeds_115 : decode cX10_deeds 115 = .ok (.iload 10, 2) := by decide +kernel
theorem dX10_deeds_117 : decode cX10_deeds 117 = .ok (.aload_n 0, 1) := by decide +kernel
theorem dX10_deeds_118 : decode cX10_deeds 118 = .ok (.getfield 34, 3) := by decide +kernel
theorem dX10_deeds_121 : decode cX10_deeds 121 = .ok (.iload 9, 2) := by decide +kernel
theorem dX10_deeds_123 : decode cX10_deeds 123 = .ok (.iaload, 1) := by decide +kernel
theorem dX10_deeds_124 : decode cX10_deeds 124 = .ok (.imul, 1) := by decide +kernel
theorem dX10_deeds_125 : decode cX10_deeds 125 = .ok (.iadd, 1) := by decide +kernel
theorem dX10_deeds_126 : decode cX10_deeds 126 = .ok (.istore 7, 2) := by decide +kernel
theorem dX10_deeds_128 : decode cX10_deeds 128 = .ok (.iload 8, 2) := by decide +kernel
theorem dX10_deeds_130 : decode cX10_deeds 130 = .ok (.iload 10, 2) := by decide +kernel
theorem dX10_deeds_132 : decode cX10_deeds 132 = .ok (.aload_n 0, 1) := by decide +kernel
theorem dX10_deeds_133 : decode cX10_deeds 133 = .ok (.getfield 37, 3) := by decide +kernel
theorem dX10_deeds_136 : decode cX10_deeds 136 = .ok (.iload 9, 2) := by decide +kernel
theorem dX10_deeds_138 : decode cX10_deeds 138 = .ok (.iaload, 1) := by decide +kernel
theorem dX10_deeds_139 : decode cX10_deeds 139 = .ok (.imul, 1) := by decide +kernel
theorem dX10_deeds_140 : decode cX10_deeds 140 = .ok (.iadd, 1) := by decide +kernel
theorem dX10_deeds_141 : decode cX10_deeds 141 = .ok (.istore 8, 2) := by decide +kernel
theorem dX10_deeds_143 : decode cX10_deeds 143 = .ok (.iinc 9 1, 3) := by decide +kernel
theorem dX10_deeds_146 : decode cX10_deeds 146 = .ok (.goto (-55), 3) := by decide +kernel
theorem dX10_deeds_149 : decode cX10_deeds 149 = .ok (.iload 7, 2) := by decide +kernel
theorem dX10_deeds_151 : decode cX10_deeds 151 = .ok (.aload_n 0, 1) := by decide +kernel
theorem dX10_deeds_152 : decode cX10_deeds 152 = .ok (.getfield 75, 3) := by decide +kernel
theorem dX10_deeds_155 : decode cX10_deeds 155 = .ok (.iload_n 1, 1) := by decide +kernel
theorem dX10_deeds_156 : decode cX10_deeds 156 = .ok (.iaload, 1) := by decide +kernel
theorem dX10_deeds_157 : decode cX10_deeds 157 = .ok (.if_icmp .lt 27, 3) := by decide +kernel
theorem dX10_deeds_160 : decode cX10_deeds 160 = .ok (.iload 4, 2) := by decide +kernel
theorem dX10_deeds_162 : decode cX10_deeds 162 = .ok (.iconst (-1), 1) := by decide +kernel
theorem dX10_deeds_163 : decode cX10_deeds 163 = .ok (.if_icmp .eq 13, 3) := by decide +kernel
theorem dX10_deeds_166 : decode cX10_deeds 166 = .ok (.iload 8, 2) := by decide +kernel
theorem dX10_deeds_168 : decode cX10_deeds 168 = .ok (.iload 5, 2) := by decide +kernel
theorem dX10_deeds_170 : decode cX10_deeds 170 = .ok (.if_icmp .lt 6, 3) := by decide +kernel
theorem dX10_deeds_173 : decode cX10_deeds 173 = .ok (.goto 11, 3) := by decide +kernel
theorem dX10_deeds_176 : decode cX10_deeds 176 = .ok (.iload 6, 2) := by decide +kernel
theorem dX10_deeds_178 : decode cX10_deeds 178 = .ok (.istore 4, 2) := by decide +kernel
theorem dX10_deeds_180 : decode cX10_deeds 180 = .ok (.iload 8, 2) := by decide +kernel
theorem dX10_deeds_182 : decode cX10_deeds 182 = .ok (.istore 5, 2) := by decide +kernel
theorem dX10_deeds_184 : decode cX10_deeds 184 = .ok (.iinc 6 1, 3) := by decide +kernel
theorem dX10_deeds_187 : decode cX10_deeds 187 = .ok (.goto (-130), 3) := by decide +kernel
theorem dX10_deeds_190 : decode cX10_deeds 190 = .ok (.iload 4, 2) := by decide +kernel
theorem dX10_deeds_192 : decode cX10_deeds 192 = .ok (.iconst (-1), 1) := by decide +kernel
theorem dX10_deeds_193 : decode cX10_deeds 193 = .ok (.if_icmp .ne 6, 3) := by decide +kernel
theorem dX10_deeds_196 : decode cX10_deeds 196 = .ok (.bipush (-3), 2) := by decide +kernel
theorem dX10_deeds_198 : decode cX10_deeds 198 = .ok (.ireturn, 1) := by decide +kernel
theorem dX10_deeds_199 : decode cX10_deeds 199 = .ok (.iload_n 2, 1) := by decide +kernel
theorem dX10_deeds_200 : decode cX10_deeds 200 = .ok (.iconst 4, 1) := by decide +kernel
theorem dX10_deeds_201 : decode cX10_deeds 201 = .ok (.if_icmp .ne 6, 3) := by decide +kernel
theorem dX10_deeds_204 : decode cX10_deeds 204 = .ok (.iload 5, 2) := by decide +kernel
theorem dX10_deeds_206 : decode cX10_deeds 206 = .ok (.ireturn, 1) := by decide +kernel
theorem dX10_deeds_207 : decode cX10_deeds 207 = .ok (.iload 4, 2) := by decide +kernel
theorem dX10_deeds_209 : decode cX10_deeds 209 = .ok (.iload_n 3, 1) := by decide +kernel
theorem dX10_deeds_210 : decode cX10_deeds 210 = .ok (.iconst 1, 1) := by decide +kernel
theorem dX10_deeds_211 : decode cX10_deeds 211 = .ok (.isub, 1) := by decide +kernel
theorem dX10_deeds_212 : decode cX10_deeds 212 = .ok (.iload_n 2, 1) := by decide +kernel
theorem dX10_deeds_213 : decode cX10_deeds 213 = .ok (.isub, 1) := by decide +kernel
theorem dX10_deeds_214 : decode cX10_deeds 214 = .ok (.invokestatic 410, 3) := by decide +kernel
theorem dX10_deeds_217 : decode cX10_deeds 217 = .ok (.idiv, 1) := by decide +kernel
theorem dX10_deeds_218 : decode cX10_deeds 218 = .ok (.iconst 5, 1) := by decide +kernel
theorem dX10_deeds_219 : decode cX10_deeds 219 = .ok (.irem, 1) := by decide +kernel
theorem dX10_deeds_220 : decode cX10_deeds 220 = .ok (.ireturn, 1) := by decide +kernel
theorem dX10_leads_0 : decode cX10_leads 0 = .ok (.aload_n 0, 1) := by decide +kernel
theorem dX10_leads_1 : decode cX10_leads 1 = .ok (.iconst 0, 1) := by decide +kernel
theorem dX10_leads_2 : decode cX10_leads 2 = .ok (.putfield 145, 3) := by decide +kernel
theorem dX10_leads_5 : decode cX10_leads 5 = .ok (.aload_n 0, 1) := by decide +kernel
theorem dX10_leads_6 : decode cX10_leads 6 = .ok (.iconst 0, 1) := by decide +kernel
theorem dX10_leads_7 : decode cX10_leads 7 = .ok (.invokevirtual 384, 3) := by decide +kernel
theorem dX10_leads_10 : decode cX10_leads 10 = .ok (.ireturn, 1) := by decide +kernel
theorem dX10_winsFrom_0 : decode cX10_winsFrom 0 = .ok (.aload_n 0, 1) := by decide +kernel
theorem dX10_winsFrom_1 : decode cX10_winsFrom 1 = .ok (.iconst 1, 1) := by decide +kernel
theorem dX10_winsFrom_2 : decode cX10_winsFrom 2 = .ok (.iconst 0, 1) := by decide +kernel
theorem dX10_winsFrom_3 : decode cX10_winsFrom 3 = .ok (.invokevirtual 390, 3) := by decide +kernel
theorem dX10_winsFrom_6 : decode cX10_winsFrom 6 = .ok (.aload_n 0, 1) := by decide +kernel
theorem dX10_winsFrom_7 : decode cX10_winsFrom 7 = .ok (.getfield 381, 3) := by decide +kernel
theorem dX10_winsFrom_10 : decode cX10_winsFrom 10 = .ok (.iconst (-1), 1) := by decide +kernel
theorem dX10_winsFrom_11 : decode cX10_winsFrom 11 = .ok (.if_icmp .eq (-11), 3) := by decide +kernel
theorem dX10_winsFrom_14 : decode cX10_winsFrom 14 = .ok (.aload_n 0, 1) := by decide +kernel
theorem dX10_winsFrom_15 : decode cX10_winsFrom 15 = .ok (.getfield 381, 3) := by decide +kernel
theorem dX10_winsFrom_18 : decode cX10_winsFrom 18 = .ok (.ireturn, 1) := by decide +kernel
theorem dX10_winner_0 : decode cX10_winner 0 = .ok (.aload_n 0, 1) := by decide +kernel
theorem dX10_winner_1 : decode cX10_winner 1 = .ok (.iconst 0, 1) := by decide +kernel
theorem dX10_winner_2 : decode cX10_winner 2 = .ok (.putfield 145, 3) := by decide +kernel
theorem dX10_winner_5 : decode cX10_winner 5 = .ok (.iload_n 1, 1) := by decide +kernel
theorem dX10_winner_6 : decode cX10_winner 6 = .ok (.ifCond .lt 17, 3) := by decide +kernel
theorem dX10_winner_9 : decode cX10_winner 9 = .ok (.iload_n 1, 1) := by decide +kernel
theorem dX10_winner_10 : decode cX10_winner 10 = .ok (.iconst 1, 1) := by decide +kernel
theorem dX10_winner_11 : decode cX10_winner 11 = .ok (.if_icmp .gt 12, 3) := by decide +kernel
theorem dX10_winner_14 : decode cX10_winner 14 = .ok (.aload_n 0, 1) := by decide +kernel
theorem dX10_winner_15 : decode cX10_winner 15 = .ok (.getfield 13, 3) := by decide +kernel
theorem dX10_winner_18 : decode cX10_winner 18 = .ok (.iconst 0, 1) := by decide +kernel
theorem dX10_winner_19 : decode cX10_winner 19 = .ok (.iaload, 1) := by decide +kernel
theorem dX10_winner_20 : decode cX10_winner 20 = .ok (.ifCond .ne 5, 3) := by decide +kernel
theorem dX10_winner_23 : decode cX10_winner 23 = .ok (.iconst (-1), 1) := by decide +kernel
