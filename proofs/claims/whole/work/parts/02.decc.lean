theorem dX8_inAll_59 : decode cX8_inAll 59 = .ok (.istore_n 3, 1) := by decide +kernel
theorem dX8_inAll_60 : decode cX8_inAll 60 = .ok (.goto 44, 3) := by decide +kernel
theorem dX8_inAll_63 : decode cX8_inAll 63 = .ok (.iload_n 3, 1) := by decide +kernel
theorem dX8_inAll_64 : decode cX8_inAll 64 = .ok (.aload 5, 2) := by decide +kernel
theorem dX8_inAll_66 : decode cX8_inAll 66 = .ok (.getfield 126, 3) := by decide +kernel
theorem dX8_inAll_69 : decode cX8_inAll 69 = .ok (.iadd, 1) := by decide +kernel
theorem dX8_inAll_70 : decode cX8_inAll 70 = .ok (.istore_n 3, 1) := by decide +kernel
theorem dX8_inAll_71 : decode cX8_inAll 71 = .ok (.goto 33, 3) := by decide +kernel
theorem dX8_inAll_74 : decode cX8_inAll 74 = .ok (.iload_n 3, 1) := by decide +kernel
theorem dX8_inAll_75 : decode cX8_inAll 75 = .ok (.aload 5, 2) := by decide +kernel
theorem dX8_inAll_77 : decode cX8_inAll 77 = .ok (.getfield 132, 3) := by decide +kernel
theorem dX8_inAll_80 : decode cX8_inAll 80 = .ok (.iadd, 1) := by decide +kernel
theorem dX8_inAll_81 : decode cX8_inAll 81 = .ok (.istore_n 3, 1) := by decide +kernel
theorem dX8_inAll_82 : decode cX8_inAll 82 = .ok (.goto 22, 3) := by decide +kernel
theorem dX8_inAll_85 : decode cX8_inAll 85 = .ok (.iload_n 3, 1) := by decide +kernel
theorem dX8_inAll_86 : decode cX8_inAll 86 = .ok (.aload 5, 2) := by decide +kernel
theorem dX8_inAll_88 : decode cX8_inAll 88 = .ok (.getfield 159, 3) := by decide +kernel
theorem dX8_inAll_91 : decode cX8_inAll 91 = .ok (.iadd, 1) := by decide +kernel
theorem dX8_inAll_92 : decode cX8_inAll 92 = .ok (.istore_n 3, 1) := by decide +kernel
theorem dX8_inAll_93 : decode cX8_inAll 93 = .ok (.goto 11, 3) := by decide +kernel
theorem dX8_inAll_96 : decode cX8_inAll 96 = .ok (.iload_n 3, 1) := by decide +kernel
theorem dX8_inAll_97 : decode cX8_inAll 97 = .ok (.aload 5, 2) := by decide +kernel
theorem dX8_inAll_99 : decode cX8_inAll 99 = .ok (.getfield 120, 3) := by decide +kernel
theorem dX8_inAll_102 : decode cX8_inAll 102 = .ok (.iadd, 1) := by decide +kernel
theorem dX8_inAll_103 : decode cX8_inAll 103 = .ok (.istore_n 3, 1) := by decide +kernel
theorem dX8_inAll_104 : decode cX8_inAll 104 = .ok (.iinc 4 1, 3) := by decide +kernel
theorem dX8_inAll_107 : decode cX8_inAll 107 = .ok (.goto (-102), 3) := by decide +kernel
theorem dX8_inAll_110 : decode cX8_inAll 110 = .ok (.iload_n 3, 1) := by decide +kernel
theorem dX8_inAll_111 : decode cX8_inAll 111 = .ok (.ireturn, 1) := by decide +kernel
theorem dX9_init_0 : decode cX9_init 0 = .ok (.aload_n 0, 1) := by decide +kernel
theorem dX9_init_1 : decode cX9_init 1 = .ok (.invokespecial 1, 3) := by decide +kernel
theorem dX9_init_4 : decode cX9_init 4 = .ok (.aload_n 0, 1) := by decide +kernel
theorem dX9_init_5 : decode cX9_init 5 = .ok (.new 7, 3) := by decide +kernel
theorem dX9_init_8 : decode cX9_init 8 = .ok (.dup, 1) := by decide +kernel
theorem dX9_init_9 : decode cX9_init 9 = .ok (.invokespecial 9, 3) := by decide +kernel
theorem dX9_init_12 : decode cX9_init 12 = .ok (.putfield 10, 3) := by decide +kernel
theorem dX9_init_15 : decode cX9_init 15 = .ok (.aload_n 0, 1) := by decide +kernel
theorem dX9_init_16 : decode cX9_init 16 = .ok (.new 16, 3) := by decide +kernel
theorem dX9_init_19 : decode cX9_init 19 = .ok (.dup, 1) := by decide +kernel
theorem dX9_init_20 : decode cX9_init 20 = .ok (.aload_n 0, 1) := by decide +kernel
theorem dX9_init_21 : decode cX9_init 21 = .ok (.getfield 10, 3) := by decide +kernel
theorem dX9_init_24 : decode cX9_init 24 = .ok (.invokespecial 18, 3) := by decide +kernel
theorem dX9_init_27 : decode cX9_init 27 = .ok (.putfield 21, 3) := by decide +kernel
theorem dX9_init_30 : decode cX9_init 30 = .ok (.aload_n 0, 1) := by decide +kernel
theorem dX9_init_31 : decode cX9_init 31 = .ok (.new 25, 3) := by decide +kernel
theorem dX9_init_34 : decode cX9_init 34 = .ok (.dup, 1) := by decide +kernel
theorem dX9_init_35 : decode cX9_init 35 = .ok (.invokespecial 27, 3) := by decide +kernel
theorem dX9_init_38 : decode cX9_init 38 = .ok (.putfield 28, 3) := by decide +kernel
theorem dX9_init_41 : decode cX9_init 41 = .ok (.aload_n 0, 1) := by decide +kernel
theorem dX9_init_42 : decode cX9_init 42 = .ok (.new 25, 3) := by decide +kernel
theorem dX9_init_45 : decode cX9_init 45 = .ok (.dup, 1) := by decide +kernel
theorem dX9_init_46 : decode cX9_init 46 = .ok (.invokespecial 27, 3) := by decide +kernel
theorem dX9_init_49 : decode cX9_init 49 = .ok (.putfield 32, 3) := by decide +kernel
theorem dX9_init_52 : decode cX9_init 52 = .ok (.aload_n 0, 1) := by decide +kernel
theorem dX9_init_53 : decode cX9_init 53 = .ok (.new 35, 3) := by decide +kernel
theorem dX9_init_56 : decode cX9_init 56 = .ok (.dup, 1) := by decide +kernel
theorem dX9_init_57 : decode cX9_init 57 = .ok (.invokespecial 37, 3) := by decide +kernel
theorem dX9_init_60 : decode cX9_init 60 = .ok (.putfield 38, 3) := by decide +kernel
theorem dX9_init_63 : decode cX9_init 63 = .ok (.aload_n 0, 1) := by decide +kernel
theorem dX9_init_64 : decode cX9_init 64 = .ok (.new 35, 3) := by decide +kernel
theorem dX9_init_67 : decode cX9_init 67 = .ok (.dup, 1) := by decide +kernel
theorem dX9_init_68 : decode cX9_init 68 = .ok (.invokespecial 37, 3) := by decide +kernel
theorem dX9_init_71 : decode cX9_init 71 = .ok (.putfield 42, 3) := by decide +kernel
theorem dX9_init_74 : decode cX9_init 74 = .ok (.aload_n 0, 1) := by decide +kernel
theorem dX9_init_75 : decode cX9_init 75 = .ok (.new 35, 3) := by decide +kernel
theorem dX9_init_78 : decode cX9_init 78 = .ok (.dup, 1) := by decide +kernel
theorem dX9_init_79 : decode cX9_init 79 = .ok (.invokespecial 37, 3) := by decide +kernel
theorem dX9_init_82 : decode cX9_init 82 = .ok (.putfield 45, 3) := by decide +kernel
theorem dX9_init_85 : decode cX9_init 85 = .ok (.aload_n 0, 1) := by decide +kernel
theorem dX9_init_86 : decode cX9_init 86 = .ok (.new 48, 3) := by decide +kernel
theorem dX9_init_89 : decode cX9_init 89 = .ok (.dup, 1) := by decide +kernel
theorem dX9_init_90 : decode cX9_init 90 = .ok (.invokespecial 50, 3) := by decide +kernel
theorem dX9_init_93 : decode cX9_init 93 = .ok (.putfield 51, 3) := by decide +kernel
theorem dX9_init_96 : decode cX9_init 96 = .ok (.aload_n 0, 1) := by decide +kernel
theorem dX9_init_97 : decode cX9_init 97 = .ok (.new 55, 3) := by decide +kernel
theorem dX9_init_100 : decode cX9_init 100 = .ok (.dup, 1) := by decide +kernel
theorem dX9_init_101 : decode cX9_init 101 = .ok (.invokespecial 57, 3) := by decide +kernel
theorem dX9_init_104 : decode cX9_init 104 = .ok (.putfield 58, 3) := by decide +kernel
theorem dX9_init_107 : decode cX9_init 107 = .ok (.aload_n 0, 1) := by decide +kernel
theorem dX9_init_108 : decode cX9_init 108 = .ok (.bipush 25, 2) := by decide +kernel
theorem dX9_init_110 : decode cX9_init 110 = .ok (.newarray .int, 2) := by decide +kernel
theorem dX9_init_112 : decode cX9_init 112 = .ok (.putfield 62, 3) := by decide +kernel
theorem dX9_init_115 : decode cX9_init 115 = .ok (.aload_n 0, 1) := by decide +kernel
theorem dX9_init_116 : decode cX9_init 116 = .ok (.iconst 5, 1) := by decide +kernel
theorem dX9_init_117 : decode cX9_init 117 = .ok (.newarray .int, 2) := by decide +kernel
theorem dX9_init_119 : decode cX9_init 119 = .ok (.putfield 66, 3) := by decide +kernel
theorem dX9_init_122 : decode cX9_init 122 = .ok (.aload_n 0, 1) := by decide +kernel
theorem dX9_init_123 : decode cX9_init 123 = .ok (.iconst 0, 1) := by decide +kernel
theorem dX9_init_124 : decode cX9_init 124 = .ok (.putfield 69, 3) := by decide +kernel
theorem dX9_init_127 : decode cX9_init 127 = .ok (.return_, 1) := by decide +kernel
theorem dX9_feed_0 : decode cX9_feed 0 = .ok (.aload_n 0, 1) := by decide +kernel
theorem dX9_feed_1 : decode cX9_feed 1 = .ok (.getfield 10, 3) := by decide +kernel
theorem dX9_feed_4 : decode cX9_feed 4 = .ok (.invokevirtual 73, 3) := by decide +kernel
theorem dX9_feed_7 : decode cX9_feed 7 = .ok (.ifCond .ne 5, 3) := by decide +kernel
theorem dX9_feed_10 : decode cX9_feed 10 = .ok (.iconst (-1), 1) := by decide +kernel
theorem dX9_feed_11 : decode cX9_feed 11 = .ok (.ireturn, 1) := by decide +kernel
theorem dX9_feed_12 : decode cX9_feed 12 = .ok (.aload_n 0, 1) := by decide +kernel
theorem dX9_feed_13 : decode cX9_feed 13 = .ok (.getfield 10, 3) := by decide +kernel
theorem dX9_feed_16 : decode cX9_feed 16 = .ok (.iload_n 1, 1) := by decide +kernel
theorem dX9_feed_17 : decode cX9_feed 17 = .ok (.invokevirtual 77, 3) := by decide +kernel
theorem dX9_feed_20 : decode cX9_feed 20 = .ok (.aload_n 0, 1) := by decide +kernel
theorem dX9_feed_21 : decode cX9_feed 21 = .ok (.getfield 10, 3) := by decide +kernel
theorem dX9_feed_24 : decode cX9_feed 24 = .ok (.iload_n 2, 1) := by decide +kernel
theorem dX9_feed_25 : decode cX9_feed 25 = .ok (.invokevirtual 77, 3) := by decide +kernel
theorem dX9_feed_28 : decode cX9_feed 28 = .ok (.aload_n 0, 1) := by decide +kernel
theorem dX9_feed_29 : decode cX9_feed 29 = .ok (.getfield 10, 3) := by decide +kernel
theorem dX9_feed_32 : decode cX9_feed 32 = .ok (.iload_n 3, 1) := by decide +kernel
theorem dX9_feed_33 : decode cX9_feed 33 = .ok (.invokevirtual 77, 3) := by decide +kernel
theorem dX9_feed_36 : decode cX9_feed 36 = .ok (.aload_n 0, 1) := by decide +kernel
theorem dX9_feed_37 : decode cX9_feed 37 = .ok (.getfield 10, 3) := by decide +kernel
theorem dX9_feed_40 : decode cX9_feed 40 = .ok (.iload 4, 2) := by decide +kernel
theorem dX9_feed_42 : decode cX9_feed 42 = .ok (.invokevirtual 77, 3) := by decide +kernel
theorem dX9_feed_45 : decode cX9_feed 45 = .ok (.aload_n 0, 1) := by decide +kernel
theorem dX9_feed_46 : decode cX9_feed 46 = .ok (.getfield 10, 3) := by decide +kernel
theorem dX9_feed_49 : decode cX9_feed 49 = .ok (.iload 5, 2) := by decide +kernel
theorem dX9_feed_51 : decode cX9_feed 51 = .ok (.invokevirtual 77, 3) := by decide +kernel
theorem dX9_feed_54 : decode cX9_feed 54 = .ok (.aload_n 0, 1) := by decide +kernel
theorem dX9_feed_55 : decode cX9_feed 55 = .ok (.getfield 10, 3) := by decide +kernel
theorem dX9_feed_58 : decode cX9_feed 58 = .ok (.getfield 81, 3) := by decide +kernel
theorem dX9_feed_61 : decode cX9_feed 61 = .ok (.ireturn, 1) := by decide +kernel
theorem dX9_text_0 : decode cX9_text 0 = .ok (.iload_n 1, 1) := by decide +kernel
theorem dX9_text_1 : decode cX9_text 1 = .ok (.ifCond .lt 14, 3) := by decide +kernel
theorem dX9_text_4 : decode cX9_text 4 = .ok (.iload_n 1, 1) := by decide +kernel
theorem dX9_text_5 : decode cX9_text 5 = .ok (.aload_n 0, 1) := by decide +kernel
theorem dX9_text_6 : decode cX9_text 6 = .ok (.getfield 10, 3) := by decide +kernel
theorem dX9_text_9 : decode cX9_text 9 = .ok (.getfield 81, 3) := by decide +kernel
theorem dX9_text_12 : decode cX9_text 12 = .ok (.if_icmp .le 6, 3) := by decide +kernel
theorem dX9_text_15 : decode cX9_text 15 = .ok (.bipush (-2), 2) := by decide +kernel
theorem dX9_text_17 : decode cX9_text 17 = .ok (.ireturn, 1) := by decide +kernel
theorem dX9_text_18 : decode cX9_text 18 = .ok (.aload_n 0, 1) := by decide +kernel
theorem dX9_text_19 : decode cX9_text 19 = .ok (.getfield 21, 3) := by decide +kernel
theorem dX9_text_22 : decode cX9_text 22 = .ok (.aload_n 0, 1) := by decide +kernel
theorem dX9_text_23 : decode cX9_text 23 = .ok (.getfield 32, 3) := by decide +kernel
theorem dX9_text_26 : decode cX9_text 26 = .ok (.iload_n 1, 1) := by decide +kernel
theorem dX9_text_27 : decode cX9_text 27 = .ok (.invokevirtual 85, 3) := by decide +kernel
theorem dX9_text_30 : decode cX9_text 30 = .ok (.istore_n 2, 1) := by decide +kernel
theorem dX9_text_31 : decode cX9_text 31 = .ok (.aload_n 0, 1) := by decide +kernel
theorem dX9_text_32 : decode cX9_text 32 = .ok (.getfield 10, 3) := by decide +kernel
theorem dX9_text_35 : decode cX9_text 35 = .ok (.iconst 0, 1) := by decide +kernel
theorem dX9_text_36 : decode cX9_text 36 = .ok (.putfield 81, 3) := by decide +kernel
theorem dX9_text_39 : decode cX9_text 39 = .ok (.iload_n 2, 1) := by decide +kernel
theorem dX9_text_40 : decode cX9_text 40 = .ok (.iconst (-1), 1) := by decide +kernel
theorem dX9_text_41 : decode cX9_text 41 = .ok (.if_icmp .ne 5, 3) := by decide +kernel
theorem dX9_text_44 : decode cX9_text 44 = .ok (.iconst (-1), 1) := by decide +kernel
theorem dX9_text_45 : decode cX9_text 45 = .ok (.ireturn, 1) := by decide +kernel
theorem dX9_text_46 : decode cX9_text 46 = .ok (.aload_n 0, 1) := by decide +kernel
theorem dX9_text_47 : decode cX9_text 47 = .ok (.getfield 28, 3) := by decide +kernel
theorem dX9_text_50 : decode cX9_text 50 = .ok (.astore_n 3, 1) := by decide +kernel
theorem dX9_text_51 : decode cX9_text 51 = .ok (.aload_n 0, 1) := by decide +kernel
theorem dX9_text_52 : decode cX9_text 52 = .ok (.aload_n 0, 1) := by decide +kernel
theorem dX9_text_53 : decode cX9_text 53 = .ok (.getfield 32, 3) := by decide +kernel
theorem dX9_text_56 : decode cX9_text 56 = .ok (.putfield 28, 3) := by decide +kernel
theorem dX9_text_59 : decode cX9_text 59 = .ok (.aload_n 0, 1) := by decide +kernel
theorem dX9_text_60 : decode cX9_text 60 = .ok (.aload_n 3, 1) := by decide +kernel
theorem dX9_text_61 : decode cX9_text 61 = .ok (.putfield 32, 3) := by decide +kernel
theorem dX9_text_64 : decode cX9_text 64 = .ok (.aload_n 0, 1) := by decide +kernel
theorem dX9_text_65 : decode cX9_text 65 = .ok (.getfield 38, 3) := by decide +kernel
theorem dX9_text_68 : decode cX9_text 68 = .ok (.aload_n 0, 1) := by decide +kernel
theorem dX9_text_69 : decode cX9_text 69 = .ok (.getfield 28, 3) := by decide +kernel
theorem dX9_text_72 : decode cX9_text 72 = .ok (.invokevirtual 89, 3) := by decide +kernel
theorem dX9_text_75 : decode cX9_text 75 = .ok (.aload_n 0, 1) := by decide +kernel
theorem dX9_text_76 : decode cX9_text 76 = .ok (.iconst 0, 1) := by decide +kernel
theorem dX9_text_77 : decode cX9_text 77 = .ok (.putfield 69, 3) := by decide +kernel
theorem dX9_text_80 : decode cX9_text 80 = .ok (.aload_n 0, 1) := by decide +kernel
theorem dX9_text_81 : decode cX9_text 81 = .ok (.getfield 51, 3) := by decide +kernel
theorem dX9_text_84 : decode cX9_text 84 = .ok (.invokevirtual 93, 3) := by decide +kernel
theorem dX9_text_87 : decode cX9_text 87 = .ok (.aload_n 0, 1) := by decide +kernel
theorem dX9_text_88 : decode cX9_text 88 = .ok (.getfield 58, 3) := by decide +kernel
theorem dX9_text_91 : decode cX9_text 91 = .ok (.iconst 0, 1) := by decide +kernel
theorem dX9_text_92 : decode cX9_text 92 = .ok (.putfield 96, 3) := by decide +kernel
theorem dX9_text_95 : decode cX9_text 95 = .ok (.iload_n 2, 1) := by decide +kernel
theorem dX9_text_96 : decode cX9_text 96 = .ok (.ireturn, 1) := by decide +kernel
theorem dX9_fault_0 : decode cX9_fault 0 = .ok (.iload_n 1, 1) := by decide +kernel
theorem dX9_fault_1 : decode cX9_fault 1 = .ok (.ifCond .ne 11, 3) := by decide +kernel
theorem dX9_fault_4 : decode cX9_fault 4 = .ok (.aload_n 0, 1) := by decide +kernel
theorem dX9_fault_5 : decode cX9_fault 5 = .ok (.getfield 21, 3) := by decide +kernel
theorem dX9_fault_8 : decode cX9_fault 8 = .ok (.getfield 99, 3) := by decide +kernel
theorem dX9_fault_11 : decode cX9_fault 11 = .ok (.ireturn, 1) := by decide +kernel
theorem dX9_fault_12 : decode cX9_fault 12 = .ok (.iload_n 1, 1) := by decide +kernel
theorem dX9_fault_13 : decode cX9_fault 13 = .ok (.iconst 1, 1) := by decide +kernel
theorem dX9_fault_14 : decode cX9_fault 14 = .ok (.if_icmp .ne 13, 3) := by decide +kernel
theorem dX9_fault_17 : decode cX9_fault 17 = .ok (.aload_n 0, 1) := by decide +kernel
theorem dX9_fault_18 : decode cX9_fault 18 = .ok (.getfield 21, 3) := by decide +kernel
theorem dX9_fault_21 : decode cX9_fault 21 = .ok (.getfield 102, 3) := by decide +kernel
theorem dX9_fault_24 : decode cX9_fault 24 = .ok (.goto 4, 3) := by decide +kernel
theorem dX9_fault_27 : decode cX9_fault 27 = .ok (.iconst (-1), 1) := by decide +kernel
theorem dX9_fault_28 : decode cX9_fault 28 = .ok (.ireturn, 1) := by decide +kernel
theorem dX9_named_0 : decode cX9_named 0 = .ok (.iload_n 1, 1) := by decide +kernel
theorem dX9_named_1 : decode cX9_named 1 = .ok (.ifCond .ne 22, 3) := by decide +kernel
theorem dX9_named_4 : decode cX9_named 4 = .ok (.iload_n 2, 1) := by decide +kernel
theorem dX9_named_5 : decode cX9_named 5 = .ok (.aload_n 0, 1) := by decide +kernel
theorem dX9_named_6 : decode cX9_named 6 = .ok (.getfield 28, 3) := by decide +kernel
theorem dX9_named_9 : decode cX9_named 9 = .ok (.getfield 105, 3) := by decide +kernel
theorem dX9_named_12 : decode cX9_named 12 = .ok (.aload_n 0, 1) := by decide +kernel
theorem dX9_named_13 : decode cX9_named 13 = .ok (.getfield 28, 3) := by decide +kernel
theorem dX9_named_16 : decode cX9_named 16 = .ok (.getfield 108, 3) := by decide +kernel
theorem dX9_named_19 : decode cX9_named 19 = .ok (.invokestatic 111, 3) := by decide +kernel
theorem dX9_named_22 : decode cX9_named 22 = .ok (.ireturn, 1) := by decide +kernel
theorem dX9_named_23 : decode cX9_named 23 = .ok (.iload_n 1, 1) := by decide +kernel
theorem dX9_named_24 : decode cX9_named 24 = .ok (.iconst 1, 1) := by decide +kernel
theorem dX9_named_25 : decode cX9_named 25 = .ok (.if_icmp .ne 24, 3) := by decide +kernel
theorem dX9_named_28 : decode cX9_named 28 = .ok (.iload_n 2, 1) := by decide +kernel
theorem dX9_named_29 : decode cX9_named 29 = .ok (.aload_n 0, 1) := by decide +kernel
theorem dX9_named_30 : decode cX9_named 30 = .ok (.getfield 28, 3) := by decide +kernel
theorem dX9_named_33 : decode cX9_named 33 = .ok (.getfield 115, 3) := by decide +kernel
theorem dX9_named_36 : decode cX9_named 36 = .ok (.aload_n 0, 1) := by decide +kernel
theorem dX9_named_37 : decode cX9_named 37 = .ok (.getfield 28, 3) := by decide +kernel
theorem dX9_named_40 : decode cX9_named 40 = .ok (.getfield 118, 3) := by decide +kernel
theorem dX9_named_43 : decode cX9_named 43 = .ok (.invokestatic 111, 3) := by decide +kernel
theorem dX9_named_46 : decode cX9_named 46 = .ok (.goto 4, 3) := by decide +kernel
theorem dX9_named_49 : decode cX9_named 49 = .ok (.iconst (-1), 1) := by decide +kernel
theorem dX9_named_50 : decode cX9_named 50 = .ok (.ireturn, 1) := by decide +kernel
theorem dX9_man_0 : decode cX9_man 0 = .ok (.aload_n 0, 1) := by decide +kernel
theorem dX9_man_1 : decode cX9_man 1 = .ok (.iload_n 1, 1) := by decide +kernel
theorem dX9_man_2 : decode cX9_man 2 = .ok (.invokevirtual 121, 3) := by decide +kernel
theorem dX9_man_5 : decode cX9_man 5 = .ok (.ifCond .ne 13, 3) := by decide +kernel
theorem dX9_man_8 : decode cX9_man 8 = .ok (.new 125, 3) := by decide +kernel
theorem dX9_man_11 : decode cX9_man 11 = .ok (.dup, 1) := by decide +kernel
theorem dX9_man_12 : decode cX9_man 12 = .ok (.ldc 127, 2) := by decide +kernel
theorem dX9_man_14 : decode cX9_man 14 = .ok (.invokespecial 129, 3) := by decide +kernel
theorem dX9_man_17 : decode cX9_man 17 = .ok (.athrow, 1) := by decide +kernel
theorem dX9_man_18 : decode cX9_man 18 = .ok (.aload_n 0, 1) := by decide +kernel
theorem dX9_man_19 : decode cX9_man 19 = .ok (.getfield 38, 3) := by decide +kernel
theorem dX9_man_22 : decode cX9_man 22 = .ok (.getfield 132, 3) := by decide +kernel
theorem dX9_man_25 : decode cX9_man 25 = .ok (.iload_n 1, 1) := by decide +kernel
theorem dX9_man_26 : decode cX9_man 26 = .ok (.aaload, 1) := by decide +kernel
theorem dX9_man_27 : decode cX9_man 27 = .ok (.astore_n 3, 1) := by decide +kernel
theorem dX9_man_28 : decode cX9_man 28 = .ok (.iload_n 2, 1) := by decide +kernel
theorem dX9_man_29 : decode cX9_man 29 = .ok (.tableswitch 92 0 7 #[47, 52, 57, 67, 72, 77, 82, 87], 47) := by decide +kernel
theorem dX9_man_76 : decode cX9_man 76 = .ok (.aload_n 3, 1) := by decide +kernel
theorem dX9_man_77 : decode cX9_man 77 = .ok (.getfield 136, 3) := by decide +kernel
theorem dX9_man_80 : decode cX9_man 80 = .ok (.ireturn, 1) := by decide +kernel
theorem dX9_man_81 : decode cX9_man 81 = .ok (.aload_n 3, 1) := by decide +kernel
theorem dX9_man_82 : decode cX9_man 82 = .ok (.getfield 141, 3) := by decide +kernel
theorem dX9_man_85 : decode cX9_man 85 = .ok (.ireturn, 1) := by decide +kernel
theorem dX9_man_86 : decode cX9_man 86 = .ok (.aload_n 0, 1) := by decide +kernel
theorem dX9_man_87 : decode cX9_man 87 = .ok (.getfield 28, 3) := by decide +kernel
theorem dX9_man_90 : decode cX9_man 90 = .ok (.getfield 144, 3) := by decide +kernel
theorem dX9_man_93 : decode cX9_man 93 = .ok (.iload_n 1, 1) := by decide +kernel
theorem dX9_man_94 : decode cX9_man 94 = .ok (.iaload, 1) := by decide +kernel
theorem dX9_man_95 : decode cX9_man 95 = .ok (.ireturn, 1) := by decide +kernel
theorem dX9_man_96 : decode cX9_man 96 = .ok (.aload_n 3, 1) := by decide +kernel
theorem dX9_man_97 : decode cX9_man 97 = .ok (.getfield 147, 3) := by decide +kernel
theorem dX9_man_100 : decode cX9_man 100 = .ok (.ireturn, 1) := by decide +kernel
theorem dX9_man_101 : decode cX9_man 101 = .ok (.aload_n 3, 1) := by decide +kernel
theorem dX9_man_102 : decode cX9_man 102 = .ok (.getfield 150, 3) := by decide +kernel
theorem dX9_man_105 : decode cX9_man 105 = .ok (.ireturn, 1) := by decide +kernel
theorem dX9_man_106 : decode cX9_man 106 = .ok (.aload_n 3, 1) := by decide +kernel
theorem dX9_man_107 : decode cX9_man 107 = .ok (.getfield 153, 3) := by decide +kernel
theorem dX9_man_110 : decode cX9_man 110 = .ok (.ireturn, 1) := by decide +kernel
theorem dX9_man_111 : decode cX9_man 111 = .ok (.aload_n 3, 1) := by decide +kernel
theorem dX9_man_112 : decode cX9_man 112 = .ok (.getfield 156, 3) := by decide +kernel
theorem dX9_man_115 : decode cX9_man 115 = .ok (.ireturn, 1) := by decide +kernel
theorem dX9_man_116 : decode cX9_man 116 = .ok (.aload_n 3, 1) := by decide +kernel
theorem dX9_man_117 : decode cX9_man 117 = .ok (.getfield 159, 3) := by decide +kernel
theorem dX9_man_120 : decode cX9_man 120 = .ok (.ireturn, 1) := by decide +kernel
theorem dX9_man_121 : decode cX9_man 121 = .ok (.new 162, 3) := by decide +kernel
theorem dX9_man_124 : decode cX9_man 124 = .ok (.dup, 1) := by decide +kernel
theorem dX9_man_125 : decode cX9_man 125 = .ok (.ldc 164, 2) := by decide +kernel
theorem dX9_man_127 : decode cX9_man 127 = .ok (.invokespecial 166, 3) := by decide +kernel
theorem dX9_man_130 : decode cX9_man 130 = .ok (.athrow, 1) := by decide +kernel
theorem dX9_has_0 : decode cX9_has 0 = .ok (.aload_n 0, 1) := by decide +kernel
theorem dX9_has_1 : decode cX9_has 1 = .ok (.iload_n 1, 1) := by decide +kernel
theorem dX9_has_2 : decode cX9_has 2 = .ok (.invokevirtual 121, 3) := by decide +kernel
theorem dX9_has_5 : decode cX9_has 5 = .ok (.ifCond .ne 5, 3) := by decide +kernel
theorem dX9_has_8 : decode cX9_has 8 = .ok (.iconst (-1), 1) := by decide +kernel
theorem dX9_has_9 : decode cX9_has 9 = .ok (.ireturn, 1) := by decide +kernel
theorem dX9_has_10 : decode cX9_has 10 = .ok (.aload_n 0, 1) := by decide +kernel
theorem dX9_has_11 : decode cX9_has 11 = .ok (.getfield 38, 3) := by decide +kernel
theorem dX9_has_14 : decode cX9_has 14 = .ok (.getfield 132, 3) := by decide +kernel
theorem dX9_has_17 : decode cX9_has 17 = .ok (.iload_n 1, 1) := by decide +kernel
theorem dX9_has_18 : decode cX9_has 18 = .ok (.aaload, 1) := by decide +kernel
theorem dX9_has_19 : decode cX9_has 19 = .ok (.astore_n 3, 1) := by decide +kernel
theorem dX9_has_20 : decode cX9_has 20 = .ok (.iload_n 2, 1) := by decide +kernel
theorem dX9_has_21 : decode cX9_has 21 = .ok (.tableswitch 59 0 3 #[31, 44, 49, 54], 31) := by decide +kernel
theorem dX9_has_52 : decode cX9_has 52 = .ok (.aload_n 3, 1) := by decide +kernel
theorem dX9_has_53 : decode cX9_has 53 = .ok (.getfield 167, 3) := by decide +kernel
theorem dX9_has_56 : decode cX9_has 56 = .ok (.ifCond .eq 7, 3) := by decide +kernel
theorem dX9_has_59 : decode cX9_has 59 = .ok (.iconst 1, 1) := by decide +kernel
theorem dX9_has_60 : decode cX9_has 60 = .ok (.goto 4, 3) := by decide +kernel
theorem dX9_has_63 : decode cX9_has 63 = .ok (.iconst 0, 1) := by decide +kernel
theorem dX9_has_64 : decode cX9_has 64 = .ok (.ireturn, 1) := by decide +kernel
theorem dX9_has_65 : decode cX9_has 65 = .ok (.aload_n 3, 1) := by decide +kernel
theorem dX9_has_66 : decode cX9_has 66 = .ok (.getfield 170, 3) := by decide +kernel
theorem dX9_has_69 : decode cX9_has 69 = .ok (.ireturn, 1) := by decide +kernel
theorem dX9_has_70 : decode cX9_has 70 = .ok (.aload_n 3, 1) := by decide +kernel
theorem dX9_has_71 : decode cX9_has 71 = .ok (.getfield 173, 3) := by decide +kernel
theorem dX9_has_74 : decode cX9_has 74 = .ok (.ireturn, 1) := by decide +kernel
theorem dX9_has_75 : decode cX9_has 75 = .ok (.aload_n 3, 1) := by decide +kernel
theorem dX9_has_76 : decode cX9_has 76 = .ok (.getfield 176, 3) := by decide +kernel
theorem dX9_has_79 : decode cX9_has 79 = .ok (.ireturn, 1) := by decide +kernel
theorem dX9_has_80 : decode cX9_has 80 = .ok (.iconst (-1), 1) := by decide +kernel
theorem dX9_has_81 : decode cX9_has 81 = .ok (.ireturn, 1) := by decide +kernel
theorem dX9_deed_0 : decode cX9_deed 0 = .ok (.aload_n 0, 1) := by decide +kernel
theorem dX9_deed_1 : decode cX9_deed 1 = .ok (.iload_n 1, 1) := by decide +kernel
theorem dX9_deed_2 : decode cX9_deed 2 = .ok (.invokevirtual 179, 3) := by decide +kernel
theorem dX9_deed_5 : decode cX9_deed 5 = .ok (.ifCond .ne 5, 3) := by decide +kernel
theorem dX9_deed_8 : decode cX9_deed 8 = .ok (.iconst (-1), 1) := by decide +kernel
theorem dX9_deed_9 : decode cX9_deed 9 = .ok (.ireturn, 1) := by decide +kernel
theorem dX9_deed_10 : decode cX9_deed 10 = .ok (.iload_n 2, 1) := by decide +kernel
theorem dX9_deed_11 : decode cX9_deed 11 = .ok (.tableswitch 55 0 2 #[25, 35, 45], 25) := by decide +kernel
theorem dX9_deed_36 : decode cX9_deed 36 = .ok (.aload_n 0, 1) := by decide +kernel
theorem dX9_deed_37 : decode cX9_deed 37 = .ok (.getfield 28, 3) := by decide +kernel
theorem dX9_deed_40 : decode cX9_deed 40 = .ok (.getfield 182, 3) := by decide +kernel
theorem dX9_deed_43 : decode cX9_deed 43 = .ok (.iload_n 1, 1) := by decide +kernel
theorem dX9_deed_44 : decode cX9_deed 44 = .ok (.iaload, 1) := by decide +kernel
theorem dX9_deed_45 : decode cX9_deed 45 = .ok (.ireturn, 1) := by decide +kernel
theorem dX9_deed_46 : decode cX9_deed 46 = .ok (.aload_n 0, 1) := by decide +kernel
theorem dX9_deed_47 : decode cX9_deed 47 = .ok (.getfield 28, 3) := by decide +kernel
theorem dX9_deed_50 : decode cX9_deed 50 = .ok (.getfield 185, 3) := by decide +kernel
theorem dX9_deed_53 : decode cX9_deed 53 = .ok (.iload_n 1, 1) := by decide +kernel
theorem dX9_deed_54 : decode cX9_deed 54 = .ok (.iaload, 1) := by decide +kernel
theorem dX9_deed_55 : decode cX9_deed 55 = .ok (.ireturn, 1) := by decide +kernel
theorem dX9_deed_56 : decode cX9_deed 56 = .ok (.aload_n 0, 1) := by decide +kernel
theorem dX9_deed_57 : decode cX9_deed 57 = .ok (.getfield 28, 3) := by decide +kernel
theorem dX9_deed_60 : decode cX9_deed 60 = .ok (.getfield 188, 3) := by decide +kernel
theorem dX9_deed_63 : decode cX9_deed 63 = .ok (.iload_n 1, 1) := by decide +kernel
theorem dX9_deed_64 : decode cX9_deed 64 = .ok (.iaload, 1) := by decide +kernel
theorem dX9_deed_65 : decode cX9_deed 65 = .ok (.ireturn, 1) := by decide +kernel
theorem dX9_deed_66 : decode cX9_deed 66 = .ok (.iconst (-1), 1) := by decide +kernel
theorem dX9_deed_67 : decode cX9_deed 67 = .ok (.ireturn, 1) := by decide +kernel
theorem dX9_times_0 : decode cX9_times 0 = .ok (.aload_n 0, 1) := by decide +kernel
theorem dX9_times_1 : decode cX9_times 1 = .ok (.iload_n 1, 1) := by decide +kernel
theorem dX9_times_2 : decode cX9_times 2 = .ok (.invokevirtual 121, 3) := by decide +kernel
theorem dX9_times_5 : decode cX9_times 5 = .ok (.ifCond .eq 28, 3) := by decide +kernel
theorem dX9_times_8 : decode cX9_times 8 = .ok (.aload_n 0, 1) := by decide +kernel
theorem dX9_times_9 : decode cX9_times 9 = .ok (.iload_n 2, 1) := by decide +kernel
theorem dX9_times_10 : decode cX9_times 10 = .ok (.invokevirtual 179, 3) := by decide +kernel
theorem dX9_times_13 : decode cX9_times 13 = .ok (.ifCond .eq 20, 3) := by decide +kernel
theorem dX9_times_16 : decode cX9_times 16 = .ok (.aload_n 0, 1) := by decide +kernel
theorem dX9_times_17 : decode cX9_times 17 = .ok (.getfield 38, 3) := by decide +kernel
theorem dX9_times_20 : decode cX9_times 20 = .ok (.getfield 132, 3) := by decide +kernel
theorem dX9_times_23 : decode cX9_times 23 = .ok (.iload_n 1, 1) := by decide +kernel
theorem dX9_times_24 : decode cX9_times 24 = .ok (.aaload, 1) := by decide +kernel
theorem dX9_times_25 : decode cX9_times 25 = .ok (.getfield 191, 3) := by decide +kernel
theorem dX9_times_28 : decode cX9_times 28 = .ok (.iload_n 2, 1) := by decide +kernel
theorem dX9_times_29 : decode cX9_times 29 = .ok (.iaload, 1) := by decide +kernel
theorem dX9_times_30 : decode cX9_times 30 = .ok (.goto 4, 3) := by decide +kernel
theorem dX9_times_33 : decode cX9_times 33 = .ok (.iconst (-1), 1) := by decide +kernel
theorem dX9_times_34 : decode cX9_times 34 = .ok (.ireturn, 1) := by decide +kernel
theorem dX9_law_0 : decode cX9_law 0 = .ok (.iload_n 1, 1) := by decide +kernel
theorem dX9_law_1 : decode cX9_law 1 = .ok (.iconst 0, 1) := by decide +kernel
theorem dX9_law_2 : decode cX9_law 2 = .ok (.iconst 2, 1) := by decide +kernel
theorem dX9_law_3 : decode cX9_law 3 = .ok (.invokestatic 194, 3) := by decide +kernel
theorem dX9_law_6 : decode cX9_law 6 = .ok (.ifCond .eq 25, 3) := by decide +kernel
theorem dX9_law_9 : decode cX9_law 9 = .ok (.aload_n 0, 1) := by decide +kernel
theorem dX9_law_10 : decode cX9_law 10 = .ok (.iload_n 2, 1) := by decide +kernel
theorem dX9_law_11 : decode cX9_law 11 = .ok (.invokevirtual 121, 3) := by decide +kernel
theorem dX9_law_14 : decode cX9_law 14 = .ok (.ifCond .eq 17, 3) := by decide +kernel
theorem dX9_law_17 : decode cX9_law 17 = .ok (.aload_n 0, 1) := by decide +kernel
theorem dX9_law_18 : decode cX9_law 18 = .ok (.getfield 28, 3) := by decide +kernel
theorem dX9_law_21 : decode cX9_law 21 = .ok (.getfield 198, 3) := by decide +kernel
theorem dX9_law_24 : decode cX9_law 24 = .ok (.iload_n 1, 1) := by decide +kernel
theorem dX9_law_25 : decode cX9_law 25 = .ok (.invokevirtual 202, 3) := by decide +kernel
theorem dX9_law_28 : decode cX9_law 28 = .ok (.ifCond .ne 7, 3) := by decide +kernel
theorem dX9_law_31 : decode cX9_law 31 = .ok (.ldc2_w 209, 3) := by decide +kernel
theorem dX9_law_34 : decode cX9_law 34 = .ok (.lreturn, 1) := by decide +kernel
theorem dX9_law_35 : decode cX9_law 35 = .ok (.aload_n 0, 1) := by decide +kernel
theorem dX9_law_36 : decode cX9_law 36 = .ok (.getfield 38, 3) := by decide +kernel
theorem dX9_law_39 : decode cX9_law 39 = .ok (.getfield 132, 3) := by decide +kernel
theorem dX9_law_42 : decode cX9_law 42 = .ok (.iload_n 2, 1) := by decide +kernel
theorem dX9_law_43 : decode cX9_law 43 = .ok (.aaload, 1) := by decide +kernel
theorem dX9_law_44 : decode cX9_law 44 = .ok (.astore_n 3, 1) := by decide +kernel
theorem dX9_law_45 : decode cX9_law 45 = .ok (.aload_n 0, 1) := by decide +kernel
theorem dX9_law_46 : decode cX9_law 46 = .ok (.getfield 38, 3) := by decide +kernel
theorem dX9_law_49 : decode cX9_law 49 = .ok (.aload_n 0, 1) := by decide +kernel
theorem dX9_law_50 : decode cX9_law 50 = .ok (.getfield 28, 3) := by decide +kernel
theorem dX9_law_53 : decode cX9_law 53 = .ok (.getfield 198, 3) := by decide +kernel
theorem dX9_law_56 : decode cX9_law 56 = .ok (.aload_n 3, 1) := by decide +kernel
theorem dX9_law_57 : decode cX9_law 57 = .ok (.aload_n 3, 1) := by decide +kernel
theorem dX9_law_58 : decode cX9_law 58 = .ok (.aload_n 3, 1) := by decide +kernel
theorem dX9_law_59 : decode cX9_law 59 = .ok (.getfield 141, 3) := by decide +kernel
theorem dX9_law_62 : decode cX9_law 62 = .ok (.aload_n 0, 1) := by decide +kernel
theorem dX9_law_63 : decode cX9_law 63 = .ok (.getfield 28, 3) := by decide +kernel
theorem dX9_law_66 : decode cX9_law 66 = .ok (.invokevirtual 211, 3) := by decide +kernel
theorem dX9_law_69 : decode cX9_law 69 = .ok (.invokevirtual 215, 3) := by decide +kernel
theorem dX9_law_72 : decode cX9_law 72 = .ok (.aload_n 0, 1) := by decide +kernel
theorem dX9_law_73 : decode cX9_law 73 = .ok (.getfield 28, 3) := by decide +kernel
theorem dX9_law_76 : decode cX9_law 76 = .ok (.getfield 198, 3) := by decide +kernel
theorem dX9_law_79 : decode cX9_law 79 = .ok (.iload_n 1, 1) := by decide +kernel
theorem dX9_law_80 : decode cX9_law 80 = .ok (.invokevirtual 219, 3) := by decide +kernel
theorem dX9_law_83 : decode cX9_law 83 = .ok (.ifCond .eq 16, 3) := by decide +kernel
theorem dX9_law_86 : decode cX9_law 86 = .ok (.aload_n 0, 1) := by decide +kernel
theorem dX9_law_87 : decode cX9_law 87 = .ok (.getfield 28, 3) := by decide +kernel
theorem dX9_law_90 : decode cX9_law 90 = .ok (.getfield 198, 3) := by decide +kernel
theorem dX9_law_93 : decode cX9_law 93 = .ok (.getfield 222, 3) := by decide +kernel
theorem dX9_law_96 : decode cX9_law 96 = .ok (.goto 6, 3) := by decide +kernel
theorem dX9_law_99 : decode cX9_law 99 = .ok (.ldc2_w 209, 3) := by decide +kernel
theorem dX9_law_102 : decode cX9_law 102 = .ok (.lreturn, 1) := by decide +kernel
theorem dX9_wear_0 : decode cX9_wear 0 = .ok (.aload_n 0, 1) := by decide +kernel
theorem dX9_wear_1 : decode cX9_wear 1 = .ok (.iload_n 1, 1) := by decide +kernel
theorem dX9_wear_2 : decode cX9_wear 2 = .ok (.invokevirtual 121, 3) := by decide +kernel
theorem dX9_wear_5 : decode cX9_wear 5 = .ok (.ifCond .eq 19, 3) := by decide +kernel
theorem dX9_wear_8 : decode cX9_wear 8 = .ok (.aload_n 0, 1) := by decide +kernel
theorem dX9_wear_9 : decode cX9_wear 9 = .ok (.getfield 38, 3) := by decide +kernel
theorem dX9_wear_12 : decode cX9_wear 12 = .ok (.getfield 132, 3) := by decide +kernel
theorem dX9_wear_15 : decode cX9_wear 15 = .ok (.iload_n 1, 1) := by decide +kernel
theorem dX9_wear_16 : decode cX9_wear 16 = .ok (.aaload, 1) := by decide +kernel
theorem dX9_wear_17 : decode cX9_wear 17 = .ok (.getfield 167, 3) := by decide +kernel
theorem dX9_wear_20 : decode cX9_wear 20 = .ok (.iload_n 2, 1) := by decide +kernel
theorem dX9_wear_21 : decode cX9_wear 21 = .ok (.if_icmp .ne 5, 3) := by decide +kernel
theorem dX9_wear_24 : decode cX9_wear 24 = .ok (.iconst 0, 1) := by decide +kernel
theorem dX9_wear_25 : decode cX9_wear 25 = .ok (.ireturn, 1) := by decide +kernel
theorem dX9_wear_26 : decode cX9_wear 26 = .ok (.aload_n 0, 1) := by decide +kernel
theorem dX9_wear_27 : decode cX9_wear 27 = .ok (.getfield 58, 3) := by decide +kernel
theorem dX9_wear_30 : decode cX9_wear 30 = .ok (.iconst 0, 1) := by decide +kernel
theorem dX9_wear_31 : decode cX9_wear 31 = .ok (.iload_n 1, 1) := by decide +kernel
theorem dX9_wear_32 : decode cX9_wear 32 = .ok (.iconst 0, 1) := by decide +kernel
theorem dX9_wear_33 : decode cX9_wear 33 = .ok (.iload_n 2, 1) := by decide +kernel
theorem dX9_wear_34 : decode cX9_wear 34 = .ok (.ifCond .eq 7, 3) := by decide +kernel
theorem dX9_wear_37 : decode cX9_wear 37 = .ok (.iconst 0, 1) := by decide +kernel
theorem dX9_wear_38 : decode cX9_wear 38 = .ok (.goto 4, 3) := by decide +kernel
theorem dX9_wear_41 : decode cX9_wear 41 = .ok (.iconst 1, 1) := by decide +kernel
theorem dX9_wear_42 : decode cX9_wear 42 = .ok (.invokevirtual 226, 3) := by decide +kernel
theorem dX9_wear_45 : decode cX9_wear 45 = .ok (.aload_n 0, 1) := by decide +kernel
theorem dX9_wear_46 : decode cX9_wear 46 = .ok (.getfield 38, 3) := by decide +kernel
theorem dX9_wear_49 : decode cX9_wear 49 = .ok (.getfield 132, 3) := by decide +kernel
theorem dX9_wear_52 : decode cX9_wear 52 = .ok (.iload_n 1, 1) := by decide +kernel
theorem dX9_wear_53 : decode cX9_wear 53 = .ok (.aaload, 1) := by decide +kernel
theorem dX9_wear_54 : decode cX9_wear 54 = .ok (.iload_n 2, 1) := by decide +kernel
theorem dX9_wear_55 : decode cX9_wear 55 = .ok (.putfield 167, 3) := by decide +kernel
theorem dX9_wear_58 : decode cX9_wear 58 = .ok (.iconst 1, 1) := by decide +kernel
theorem dX9_wear_59 : decode cX9_wear 59 = .ok (.ireturn, 1) := by decide +kernel
theorem dX9_goal_0 : decode cX9_goal 0 = .ok (.aload_n 0, 1) := by decide +kernel
theorem dX9_goal_1 : decode cX9_goal 1 = .ok (.iload_n 1, 1) := by decide +kernel
theorem dX9_goal_2 : decode cX9_goal 2 = .ok (.invokevirtual 121, 3) := by decide +kernel
theorem dX9_goal_5 : decode cX9_goal 5 = .ok (.ifCond .eq 29, 3) := by decide +kernel
theorem dX9_goal_8 : decode cX9_goal 8 = .ok (.iload_n 2, 1) := by decide +kernel
theorem dX9_goal_9 : decode cX9_goal 9 = .ok (.iconst 0, 1) := by decide +kernel
theorem dX9_goal_10 : decode cX9_goal 10 = .ok (.bipush 99, 2) := by decide +kernel
theorem dX9_goal_12 : decode cX9_goal 12 = .ok (.invokestatic 194, 3) := by decide +kernel
theorem dX9_goal_15 : decode cX9_goal 15 = .ok (.ifCond .eq 19, 3) := by decide +kernel
theorem dX9_goal_18 : decode cX9_goal 18 = .ok (.aload_n 0, 1) := by decide +kernel
theorem dX9_goal_19 : decode cX9_goal 19 = .ok (.getfield 38, 3) := by decide +kernel
theorem dX9_goal_22 : decode cX9_goal 22 = .ok (.getfield 132, 3) := by decide +kernel
theorem dX9_goal_25 : decode cX9_goal 25 = .ok (.iload_n 1, 1) := by decide +kernel
theorem dX9_goal_26 : decode cX9_goal 26 = .ok (.aaload, 1) := by decide +kernel
theorem dX9_goal_27 : decode cX9_goal 27 = .ok (.getfield 136, 3) := by decide +kernel
theorem dX9_goal_30 : decode cX9_goal 30 = .ok (.iload_n 2, 1) := by decide +kernel
theorem dX9_goal_31 : decode cX9_goal 31 = .ok (.if_icmp .ne 5, 3) := by decide +kernel
theorem dX9_goal_34 : decode cX9_goal 34 = .ok (.iconst 0, 1) := by decide +kernel
theorem dX9_goal_35 : decode cX9_goal 35 = .ok (.ireturn, 1) := by decide +kernel
theorem dX9_goal_36 : decode cX9_goal 36 = .ok (.aload_n 0, 1) := by decide +kernel
theorem dX9_goal_37 : decode cX9_goal 37 = .ok (.getfield 58, 3) := by decide +kernel
theorem dX9_goal_40 : decode cX9_goal 40 = .ok (.iconst 1, 1) := by decide +kernel
theorem dX9_goal_41 : decode cX9_goal 41 = .ok (.iload_n 1, 1) := by decide +kernel
theorem dX9_goal_42 : decode cX9_goal 42 = .ok (.iconst 0, 1) := by decide +kernel
theorem dX9_goal_43 : decode cX9_goal 43 = .ok (.aload_n 0, 1) := by decide +kernel
theorem dX9_goal_44 : decode cX9_goal 44 = .ok (.getfield 38, 3) := by decide +kernel
theorem dX9_goal_47 : decode cX9_goal 47 = .ok (.getfield 132, 3) := by decide +kernel
theorem dX9_goal_50 : decode cX9_goal 50 = .ok (.iload_n 1, 1) := by decide +kernel
theorem dX9_goal_51 : decode cX9_goal 51 = .ok (.aaload, 1) := by decide +kernel
theorem dX9_goal_52 : decode cX9_goal 52 = .ok (.getfield 136, 3) := by decide +kernel
theorem dX9_goal_55 : decode cX9_goal 55 = .ok (.invokevirtual 226, 3) := by decide +kernel
theorem dX9_goal_58 : decode cX9_goal 58 = .ok (.aload_n 0, 1) := by decide +kernel
theorem dX9_goal_59 : decode cX9_goal 59 = .ok (.getfield 38, 3) := by decide +kernel
theorem dX9_goal_62 : decode cX9_goal 62 = .ok (.getfield 132, 3) := by decide +kernel
theorem dX9_goal_65 : decode cX9_goal 65 = .ok (.iload_n 1, 1) := by decide +kernel
theorem dX9_goal_66 : decode cX9_goal 66 = .ok (.aaload, 1) := by decide +kernel
theorem dX9_goal_67 : decode cX9_goal 67 = .ok (.iload_n 2, 1) := by decide +kernel
theorem dX9_goal_68 : decode cX9_goal 68 = .ok (.putfield 136, 3) := by decide +kernel
theorem dX9_goal_71 : decode cX9_goal 71 = .ok (.iconst 1, 1) := by decide +kernel
theorem dX9_goal_72 : decode cX9_goal 72 = .ok (.ireturn, 1) := by decide +kernel
theorem dX9_plan_0 : decode cX9_plan 0 = .ok (.aload_n 0, 1) := by decide +kernel
theorem dX9_plan_1 : decode cX9_plan 1 = .ok (.iload_n 1, 1) := by decide +kernel
theorem dX9_plan_2 : decode cX9_plan 2 = .ok (.invokevirtual 121, 3) := by decide +kernel
theorem dX9_plan_5 : decode cX9_plan 5 = .ok (.ifCond .eq 21, 3) := by decide +kernel
theorem dX9_plan_8 : decode cX9_plan 8 = .ok (.aload_n 0, 1) := by decide +kernel
theorem dX9_plan_9 : decode cX9_plan 9 = .ok (.iload_n 2, 1) := by decide +kernel
theorem dX9_plan_10 : decode cX9_plan 10 = .ok (.invokevirtual 179, 3) := by decide +kernel
theorem dX9_plan_13 : decode cX9_plan 13 = .ok (.ifCond .eq 13, 3) := by decide +kernel
theorem dX9_plan_16 : decode cX9_plan 16 = .ok (.iload_n 3, 1) := by decide +kernel
theorem dX9_plan_17 : decode cX9_plan 17 = .ok (.iconst 0, 1) := by decide +kernel
theorem dX9_plan_18 : decode cX9_plan 18 = .ok (.bipush 9, 2) := by decide +kernel
theorem dX9_plan_20 : decode cX9_plan 20 = .ok (.invokestatic 194, 3) := by decide +kernel
theorem dX9_plan_23 : decode cX9_plan 23 = .ok (.ifCond .ne 5, 3) := by decide +kernel
theorem dX9_plan_26 : decode cX9_plan 26 = .ok (.iconst 0, 1) := by decide +kernel
theorem dX9_plan_27 : decode cX9_plan 27 = .ok (.ireturn, 1) := by decide +kernel
theorem dX9_plan_28 : decode cX9_plan 28 = .ok (.aload_n 0, 1) := by decide +kernel
theorem dX9_plan_29 : decode cX9_plan 29 = .ok (.getfield 38, 3) := by decide +kernel
theorem dX9_plan_32 : decode cX9_plan 32 = .ok (.getfield 132, 3) := by decide +kernel
theorem dX9_plan_35 : decode cX9_plan 35 = .ok (.iload_n 1, 1) := by decide +kernel
theorem dX9_plan_36 : decode cX9_plan 36 = .ok (.aaload, 1) := by decide +kernel
theorem dX9_plan_37 : decode cX9_plan 37 = .ok (.getfield 191, 3) := by decide +kernel
theorem dX9_plan_40 : decode cX9_plan 40 = .ok (.iload_n 2, 1) := by decide +kernel
theorem dX9_plan_41 : decode cX9_plan 41 = .ok (.iaload, 1) := by decide +kernel
theorem dX9_plan_42 : decode cX9_plan 42 = .ok (.istore 4, 2) := by decide +kernel
theorem dX9_plan_44 : decode cX9_plan 44 = .ok (.iload 4, 2) := by decide +kernel
theorem dX9_plan_46 : decode cX9_plan 46 = .ok (.iload_n 3, 1) := by decide +kernel
theorem dX9_plan_47 : decode cX9_plan 47 = .ok (.if_icmp .ne 5, 3) := by decide +kernel
theorem dX9_plan_50 : decode cX9_plan 50 = .ok (.iconst 0, 1) := by decide +kernel
theorem dX9_plan_51 : decode cX9_plan 51 = .ok (.ireturn, 1) := by decide +kernel
theorem dX9_plan_52 : decode cX9_plan 52 = .ok (.aload_n 0, 1) := by decide +kernel
theorem dX9_plan_53 : decode cX9_plan 53 = .ok (.getfield 58, 3) := by decide +kernel
theorem dX9_plan_56 : decode cX9_plan 56 = .ok (.iconst 2, 1) := by decide +kernel
theorem dX9_plan_57 : decode cX9_plan 57 = .ok (.iload_n 1, 1) := by decide +kernel
theorem dX9_plan_58 : decode cX9_plan 58 = .ok (.iload_n 2, 1) := by decide +kernel
theorem dX9_plan_59 : decode cX9_plan 59 = .ok (.iload 4, 2) := by decide +kernel
theorem dX9_plan_61 : decode cX9_plan 61 = .ok (.invokevirtual 226, 3) := by decide +kernel
theorem dX9_plan_64 : decode cX9_plan 64 = .ok (.aload_n 0, 1) := by decide +kernel
theorem dX9_plan_65 : decode cX9_plan 65 = .ok (.getfield 38, 3) := by decide +kernel
theorem dX9_plan_68 : decode cX9_plan 68 = .ok (.getfield 132, 3) := by decide +kernel
theorem dX9_plan_71 : decode cX9_plan 71 = .ok (.iload_n 1, 1) := by decide +kernel
theorem dX9_plan_72 : decode cX9_plan 72 = .ok (.aaload, 1) := by decide +kernel
theorem dX9_plan_73 : decode cX9_plan 73 = .ok (.getfield 191, 3) := by decide +kernel
theorem dX9_plan_76 : decode cX9_plan 76 = .ok (.iload_n 2, 1) := by decide +kernel
theorem dX9_plan_77 : decode cX9_plan 77 = .ok (.iload_n 3, 1) := by decide +kernel
theorem dX9_plan_78 : decode cX9_plan 78 = .ok (.iastore, 1) := by decide +kernel
theorem dX9_plan_79 : decode cX9_plan 79 = .ok (.iconst 1, 1) := by decide +kernel
theorem dX9_plan_80 : decode cX9_plan 80 = .ok (.ireturn, 1) := by decide +kernel
theorem dX9_lend_0 : decode cX9_lend 0 = .ok (.aload_n 0, 1) := by decide +kernel
theorem dX9_lend_1 : decode cX9_lend 1 = .ok (.iload_n 1, 1) := by decide +kernel
theorem dX9_lend_2 : decode cX9_lend 2 = .ok (.invokevirtual 121, 3) := by decide +kernel
theorem dX9_lend_5 : decode cX9_lend 5 = .ok (.ifCond .eq 13, 3) := by decide +kernel
theorem dX9_lend_8 : decode cX9_lend 8 = .ok (.iload_n 2, 1) := by decide +kernel
theorem dX9_lend_9 : decode cX9_lend 9 = .ok (.iconst 1, 1) := by decide +kernel
theorem dX9_lend_10 : decode cX9_lend 10 = .ok (.bipush 99, 2) := by decide +kernel
theorem dX9_lend_12 : decode cX9_lend 12 = .ok (.invokestatic 194, 3) := by decide +kernel
theorem dX9_lend_15 : decode cX9_lend 15 = .ok (.ifCond .ne 5, 3) := by decide +kernel
theorem dX9_lend_18 : decode cX9_lend 18 = .ok (.iconst (-1), 1) := by decide +kernel
theorem dX9_lend_19 : decode cX9_lend 19 = .ok (.ireturn, 1) := by decide +kernel
theorem dX9_lend_20 : decode cX9_lend 20 = .ok (.aload_n 0, 1) := by decide +kernel
theorem dX9_lend_21 : decode cX9_lend 21 = .ok (.getfield 38, 3) := by decide +kernel
theorem dX9_lend_24 : decode cX9_lend 24 = .ok (.getfield 132, 3) := by decide +kernel
theorem dX9_lend_27 : decode cX9_lend 27 = .ok (.iload_n 1, 1) := by decide +kernel
theorem dX9_lend_28 : decode cX9_lend 28 = .ok (.aaload, 1) := by decide +kernel
theorem dX9_lend_29 : decode cX9_lend 29 = .ok (.astore_n 3, 1) := by decide +kernel
theorem dX9_lend_30 : decode cX9_lend 30 = .ok (.aload_n 3, 1) := by decide +kernel
theorem dX9_lend_31 : decode cX9_lend 31 = .ok (.getfield 170, 3) := by decide +kernel
theorem dX9_lend_34 : decode cX9_lend 34 = .ok (.iload_n 2, 1) := by decide +kernel
theorem dX9_lend_35 : decode cX9_lend 35 = .ok (.iadd, 1) := by decide +kernel
theorem dX9_lend_36 : decode cX9_lend 36 = .ok (.sipush 999, 3) := by decide +kernel
theorem dX9_lend_39 : decode cX9_lend 39 = .ok (.if_icmp .le 5, 3) := by decide +kernel
theorem dX9_lend_42 : decode cX9_lend 42 = .ok (.iconst (-1), 1) := by decide +kernel
theorem dX9_lend_43 : decode cX9_lend 43 = .ok (.ireturn, 1) := by decide +kernel
theorem dX9_lend_44 : decode cX9_lend 44 = .ok (.aload_n 0, 1) := by decide +kernel
theorem dX9_lend_45 : decode cX9_lend 45 = .ok (.getfield 58, 3) := by decide +kernel
theorem dX9_lend_48 : decode cX9_lend 48 = .ok (.iconst 3, 1) := by decide +kernel
theorem dX9_lend_49 : decode cX9_lend 49 = .ok (.iload_n 1, 1) := by decide +kernel
theorem dX9_lend_50 : decode cX9_lend 50 = .ok (.iconst 0, 1) := by decide +kernel
theorem dX9_lend_51 : decode cX9_lend 51 = .ok (.aload_n 3, 1) := by decide +kernel
theorem dX9_lend_52 : decode cX9_lend 52 = .ok (.getfield 170, 3) := by decide +kernel
theorem dX9_lend_55 : decode cX9_lend 55 = .ok (.invokevirtual 226, 3) := by decide +kernel
theorem dX9_lend_58 : decode cX9_lend 58 = .ok (.aload_n 3, 1) := by decide +kernel
theorem dX9_lend_59 : decode cX9_lend 59 = .ok (.dup, 1) := by decide +kernel
theorem dX9_lend_60 : decode cX9_lend 60 = .ok (.getfield 170, 3) := by decide +kernel
theorem dX9_lend_63 : decode cX9_lend 63 = .ok (.iload_n 2, 1) := by decide +kernel
theorem dX9_lend_64 : decode cX9_lend 64 = .ok (.iadd, 1) := by decide +kernel
theorem dX9_lend_65 : decode cX9_lend 65 = .ok (.putfield 170, 3) := by decide +kernel
theorem dX9_lend_68 : decode cX9_lend 68 = .ok (.aload_n 3, 1) := by decide +kernel
theorem dX9_lend_69 : decode cX9_lend 69 = .ok (.getfield 170, 3) := by decide +kernel
theorem dX9_lend_72 : decode cX9_lend 72 = .ok (.ireturn, 1) := by decide +kernel
theorem dX9_go_0 : decode cX9_go 0 = .ok (.iload_n 1, 1) := by decide +kernel
theorem dX9_go_1 : decode cX9_go 1 = .ok (.iconst 0, 1) := by decide +kernel
theorem dX9_go_2 : decode cX9_go 2 = .ok (.bipush 99, 2) := by decide +kernel
theorem dX9_go_4 : decode cX9_go 4 = .ok (.invokestatic 194, 3) := by decide +kernel
theorem dX9_go_7 : decode cX9_go 7 = .ok (.ifCond .eq 18, 3) := by decide +kernel
theorem dX9_go_10 : decode cX9_go 10 = .ok (.aload_n 0, 1) := by decide +kernel
theorem dX9_go_11 : decode cX9_go 11 = .ok (.getfield 38, 3) := by decide +kernel
theorem dX9_go_14 : decode cX9_go 14 = .ok (.getfield 230, 3) := by decide +kernel
theorem dX9_go_17 : decode cX9_go 17 = .ok (.iload_n 1, 1) := by decide +kernel
theorem dX9_go_18 : decode cX9_go 18 = .ok (.iadd, 1) := by decide +kernel
theorem dX9_go_19 : decode cX9_go 19 = .ok (.sipush 9900, 3) := by decide +kernel
theorem dX9_go_22 : decode cX9_go 22 = .ok (.if_icmp .le 5, 3) := by decide +kernel
theorem dX9_go_25 : decode cX9_go 25 = .ok (.iconst (-1), 1) := by decide +kernel
theorem dX9_go_26 : decode cX9_go 26 = .ok (.ireturn, 1) := by decide +kernel
theorem dX9_go_27 : decode cX9_go 27 = .ok (.iconst 0, 1) := by decide +kernel
theorem dX9_go_28 : decode cX9_go 28 = .ok (.istore_n 2, 1) := by decide +kernel
theorem dX9_go_29 : decode cX9_go 29 = .ok (.iload_n 2, 1) := by decide +kernel
theorem dX9_go_30 : decode cX9_go 30 = .ok (.iload_n 1, 1) := by decide +kernel
theorem dX9_go_31 : decode cX9_go 31 = .ok (.if_icmp .ge 34, 3) := by decide +kernel
theorem dX9_go_34 : decode cX9_go 34 = .ok (.aload_n 0, 1) := by decide +kernel
theorem dX9_go_35 : decode cX9_go 35 = .ok (.getfield 38, 3) := by decide +kernel
theorem dX9_go_38 : decode cX9_go 38 = .ok (.aload_n 0, 1) := by decide +kernel
theorem dX9_go_39 : decode cX9_go 39 = .ok (.getfield 28, 3) := by decide +kernel
theorem dX9_go_42 : decode cX9_go 42 = .ok (.aload_n 0, 1) := by decide +kernel
theorem dX9_go_43 : decode cX9_go 43 = .ok (.getfield 38, 3) := by decide +kernel
theorem dX9_go_46 : decode cX9_go 46 = .ok (.aload_n 0, 1) := by decide +kernel
theorem dX9_go_47 : decode cX9_go 47 = .ok (.getfield 28, 3) := by decide +kernel
theorem dX9_go_50 : decode cX9_go 50 = .ok (.getfield 233, 3) := by decide +kernel
theorem dX9_go_53 : decode cX9_go 53 = .ok (.invokevirtual 236, 3) := by decide +kernel
theorem dX9_go_56 : decode cX9_go 56 = .ok (.invokevirtual 239, 3) := by decide +kernel
theorem dX9_go_59 : decode cX9_go 59 = .ok (.iinc 2 1, 3) := by decide +kernel
theorem dX9_go_62 : decode cX9_go 62 = .ok (.goto (-33), 3) := by decide +kernel
theorem dX9_go_65 : decode cX9_go 65 = .ok (.iload_n 1, 1) := by decide +kernel
theorem dX9_go_66 : decode cX9_go 66 = .ok (.ifCond .le 11, 3) := by decide +kernel
theorem dX9_go_69 : decode cX9_go 69 = .ok (.aload_n 0, 1) := by decide +kernel
theorem dX9_go_70 : decode cX9_go 70 = .ok (.getfield 58, 3) := by decide +kernel
theorem dX9_go_73 : decode cX9_go 73 = .ok (.iconst 0, 1) := by decide +kernel
theorem dX9_go_74 : decode cX9_go 74 = .ok (.putfield 96, 3) := by decide +kernel
theorem dX9_go_77 : decode cX9_go 77 = .ok (.aload_n 0, 1) := by decide +kernel
theorem dX9_go_78 : decode cX9_go 78 = .ok (.getfield 38, 3) := by decide +kernel
theorem dX9_go_81 : decode cX9_go 81 = .ok (.getfield 230, 3) := by decide +kernel
theorem dX9_go_84 : decode cX9_go 84 = .ok (.ireturn, 1) := by decide +kernel
theorem dX9_ahead_0 : decode cX9_ahead 0 = .ok (.aload_n 0, 1) := by decide +kernel
theorem dX9_ahead_1 : decode cX9_ahead 1 = .ok (.iload_n 1, 1) := by decide +kernel
theorem dX9_ahead_2 : decode cX9_ahead 2 = .ok (.invokevirtual 121, 3) := by decide +kernel
theorem dX9_ahead_5 : decode cX9_ahead 5 = .ok (.ifCond .eq 22, 3) := by decide +kernel
theorem dX9_ahead_8 : decode cX9_ahead 8 = .ok (.iload_n 2, 1) := by decide +kernel
theorem dX9_ahead_9 : decode cX9_ahead 9 = .ok (.iconst 0, 1) := by decide +kernel
theorem dX9_ahead_10 : decode cX9_ahead 10 = .ok (.bipush 60, 2) := by decide +kernel
theorem dX9_ahead_12 : decode cX9_ahead 12 = .ok (.invokestatic 194, 3) := by decide +kernel
theorem dX9_ahead_15 : decode cX9_ahead 15 = .ok (.ifCond .eq 12, 3) := by decide +kernel
theorem dX9_ahead_18 : decode cX9_ahead 18 = .ok (.iload_n 3, 1) := by decide +kernel
theorem dX9_ahead_19 : decode cX9_ahead 19 = .ok (.iconst 0, 1) := by decide +kernel
theorem dX9_ahead_20 : decode cX9_ahead 20 = .ok (.iconst 3, 1) := by decide +kernel
theorem dX9_ahead_21 : decode cX9_ahead 21 = .ok (.invokestatic 194, 3) := by decide +kernel
theorem dX9_ahead_24 : decode cX9_ahead 24 = .ok (.ifCond .ne 5, 3) := by decide +kernel
theorem dX9_ahead_27 : decode cX9_ahead 27 = .ok (.iconst (-1), 1) := by decide +kernel
theorem dX9_ahead_28 : decode cX9_ahead 28 = .ok (.ireturn, 1) := by decide +kernel
theorem dX9_ahead_29 : decode cX9_ahead 29 = .ok (.aload_n 0, 1) := by decide +kernel
theorem dX9_ahead_30 : decode cX9_ahead 30 = .ok (.iload_n 1, 1) := by decide +kernel
theorem dX9_ahead_31 : decode cX9_ahead 31 = .ok (.invokevirtual 243, 3) := by decide +kernel
theorem dX9_ahead_34 : decode cX9_ahead 34 = .ok (.astore 4, 2) := by decide +kernel
theorem dX9_ahead_36 : decode cX9_ahead 36 = .ok (.aload_n 0, 1) := by decide +kernel
theorem dX9_ahead_37 : decode cX9_ahead 37 = .ok (.iload_n 2, 1) := by decide +kernel
theorem dX9_ahead_38 : decode cX9_ahead 38 = .ok (.invokevirtual 247, 3) := by decide +kernel
theorem dX9_ahead_41 : decode cX9_ahead 41 = .ok (.iload_n 3, 1) := by decide +kernel
theorem dX9_ahead_42 : decode cX9_ahead 42 = .ok (.tableswitch 70 0 2 #[26, 45, 64], 26) := by decide +kernel
theorem dX9_ahead_68 : decode cX9_ahead 68 = .ok (.aload 4, 2) := by decide +kernel
theorem dX9_ahead_70 : decode cX9_ahead 70 = .ok (.getfield 159, 3) := by decide +kernel
theorem dX9_ahead_73 : decode cX9_ahead 73 = .ok (.aload_n 0, 1) := by decide +kernel
theorem dX9_ahead_74 : decode cX9_ahead 74 = .ok (.getfield 38, 3) := by decide +kernel
theorem dX9_ahead_77 : decode cX9_ahead 77 = .ok (.getfield 132, 3) := by decide +kernel
theorem dX9_ahead_80 : decode cX9_ahead 80 = .ok (.iload_n 1, 1) := by decide +kernel
theorem dX9_ahead_81 : decode cX9_ahead 81 = .ok (.aaload, 1) := by decide +kernel
theorem dX9_ahead_82 : decode cX9_ahead 82 = .ok (.getfield 159, 3) := by decide +kernel
theorem dX9_ahead_85 : decode cX9_ahead 85 = .ok (.isub, 1) := by decide +kernel
theorem dX9_ahead_86 : decode cX9_ahead 86 = .ok (.ireturn, 1) := by decide +kernel
theorem dX9_ahead_87 : decode cX9_ahead 87 = .ok (.aload 4, 2) := by decide +kernel
theorem dX9_ahead_89 : decode cX9_ahead 89 = .ok (.getfield 156, 3) := by decide +kernel
theorem dX9_ahead_92 : decode cX9_ahead 92 = .ok (.aload_n 0, 1) := by decide +kernel
theorem dX9_ahead_93 : decode cX9_ahead 93 = .ok (.getfield 38, 3) := by decide +kernel
theorem dX9_ahead_96 : decode cX9_ahead 96 = .ok (.getfield 132, 3) := by decide +kernel
theorem dX9_ahead_99 : decode cX9_ahead 99 = .ok (.iload_n 1, 1) := by decide +kernel
theorem dX9_ahead_100 : decode cX9_ahead 100 = .ok (.aaload, 1) := by decide +kernel
theorem dX9_ahead_101 : decode cX9_ahead 101 = .ok (.getfield 156, 3) := by decide +kernel
theorem dX9_ahead_104 : decode cX9_ahead 104 = .ok (.isub, 1) := by decide +kernel
theorem dX9_ahead_105 : decode cX9_ahead 105 = .ok (.ireturn, 1) := by decide +kernel
theorem dX9_ahead_106 : decode cX9_ahead 106 = .ok (.aload 4, 2) := by decide +kernel
theorem dX9_ahead_108 : decode cX9_ahead 108 = .ok (.getfield 147, 3) := by decide +kernel
theorem dX9_ahead_111 : decode cX9_ahead 111 = .ok (.ireturn, 1) := by decide +kernel
theorem dX9_ahead_112 : decode cX9_ahead 112 = .ok (.aload 4, 2) := by decide +kernel
theorem dX9_ahead_114 : decode cX9_ahead 114 = .ok (.getfield 141, 3) := by decide +kernel
theorem dX9_ahead_117 : decode cX9_ahead 117 = .ok (.ireturn, 1) := by decide +kernel
theorem dX9_reaches_0 : decode cX9_reaches 0 = .ok (.aload_n 0, 1) := by decide +kernel
theorem dX9_reaches_1 : decode cX9_reaches 1 = .ok (.iload_n 1, 1) := by decide +kernel
theorem dX9_reaches_2 : decode cX9_reaches 2 = .ok (.invokevirtual 121, 3) := by decide +kernel
theorem dX9_reaches_5 : decode cX9_reaches 5 = .ok (.ifCond .eq 13, 3) := by decide +kernel
theorem dX9_reaches_8 : decode cX9_reaches 8 = .ok (.iload_n 2, 1) := by decide +kernel
theorem dX9_reaches_9 : decode cX9_reaches 9 = .ok (.iconst 1, 1) := by decide +kernel
theorem dX9_reaches_10 : decode cX9_reaches 10 = .ok (.bipush 99, 2) := by decide +kernel
theorem dX9_reaches_12 : decode cX9_reaches 12 = .ok (.invokestatic 194, 3) := by decide +kernel
theorem dX9_reaches_15 : decode cX9_reaches 15 = .ok (.ifCond .ne 5, 3) := by decide +kernel
theorem dX9_reaches_18 : decode cX9_reaches 18 = .ok (.iconst (-1), 1) := by decide +kernel
theorem dX9_reaches_19 : decode cX9_reaches 19 = .ok (.ireturn, 1) := by decide +kernel
theorem dX9_reaches_20 : decode cX9_reaches 20 = .ok (.aload_n 0, 1) := by decide +kernel
theorem dX9_reaches_21 : decode cX9_reaches 21 = .ok (.iload_n 1, 1) := by decide +kernel
theorem dX9_reaches_22 : decode cX9_reaches 22 = .ok (.invokevirtual 243, 3) := by decide +kernel
theorem dX9_reaches_25 : decode cX9_reaches 25 = .ok (.astore_n 3, 1) := by decide +kernel
theorem dX9_reaches_26 : decode cX9_reaches 26 = .ok (.iconst 1, 1) := by decide +kernel
theorem dX9_reaches_27 : decode cX9_reaches 27 = .ok (.istore 4, 2) := by decide +kernel
theorem dX9_reaches_29 : decode cX9_reaches 29 = .ok (.iload 4, 2) := by decide +kernel
theorem dX9_reaches_31 : decode cX9_reaches 31 = .ok (.iload_n 2, 1) := by decide +kernel
theorem dX9_reaches_32 : decode cX9_reaches 32 = .ok (.if_icmp .gt 24, 3) := by decide +kernel
theorem dX9_reaches_35 : decode cX9_reaches 35 = .ok (.aload_n 0, 1) := by decide +kernel
theorem dX9_reaches_36 : decode cX9_reaches 36 = .ok (.iconst 1, 1) := by decide +kernel
theorem dX9_reaches_37 : decode cX9_reaches 37 = .ok (.invokevirtual 247, 3) := by decide +kernel
theorem dX9_reaches_40 : decode cX9_reaches 40 = .ok (.aload_n 3, 1) := by decide +kernel
theorem dX9_reaches_41 : decode cX9_reaches 41 = .ok (.getfield 147, 3) := by decide +kernel
theorem dX9_reaches_44 : decode cX9_reaches 44 = .ok (.ifCond .le 6, 3) := by decide +kernel
theorem dX9_reaches_47 : decode cX9_reaches 47 = .ok (.iload 4, 2) := by decide +kernel
theorem dX9_reaches_49 : decode cX9_reaches 49 = .ok (.ireturn, 1) := by decide +kernel
theorem dX9_reaches_50 : decode cX9_reaches 50 = .ok (.iinc 4 1, 3) := by decide +kernel
theorem dX9_reaches_53 : decode cX9_reaches 53 = .ok (.goto (-24), 3) := by decide +kernel
theorem dX9_reaches_56 : decode cX9_reaches 56 = .ok (.bipush (-2), 2) := by decide +kernel
theorem dX9_reaches_58 : decode cX9_reaches 58 = .ok (.ireturn, 1) := by decide +kernel
theorem dX9_longest_0 : decode cX9_longest 0 = .ok (.aload_n 0, 1) := by decide +kernel
theorem dX9_longest_1 : decode cX9_longest 1 = .ok (.iload_n 1, 1) := by decide +kernel
theorem dX9_longest_2 : decode cX9_longest 2 = .ok (.invokevirtual 121, 3) := by decide +kernel
theorem dX9_longest_5 : decode cX9_longest 5 = .ok (.ifCond .eq 13, 3) := by decide +kernel
theorem dX9_longest_8 : decode cX9_longest 8 = .ok (.iload_n 2, 1) := by decide +kernel
theorem dX9_longest_9 : decode cX9_longest 9 = .ok (.iconst 0, 1) := by decide +kernel
theorem dX9_longest_10 : decode cX9_longest 10 = .ok (.bipush 99, 2) := by decide +kernel
theorem dX9_longest_12 : decode cX9_longest 12 = .ok (.invokestatic 194, 3) := by decide +kernel
theorem dX9_longest_15 : decode cX9_longest 15 = .ok (.ifCond .ne 5, 3) := by decide +kernel
theorem dX9_longest_18 : decode cX9_longest 18 = .ok (.iconst (-1), 1) := by decide +kernel
theorem dX9_longest_19 : decode cX9_longest 19 = .ok (.ireturn, 1) := by decide +kernel
theorem dX9_longest_20 : decode cX9_longest 20 = .ok (.aload_n 0, 1) := by decide +kernel
theorem dX9_longest_21 : decode cX9_longest 21 = .ok (.iload_n 1, 1) := by decide +kernel
theorem dX9_longest_22 : decode cX9_longest 22 = .ok (.invokevirtual 243, 3) := by decide +kernel
theorem dX9_longest_25 : decode cX9_longest 25 = .ok (.astore_n 3, 1) := by decide +kernel
theorem dX9_longest_26 : decode cX9_longest 26 = .ok (.aload_n 3, 1) := by decide +kernel
theorem dX9_longest_27 : decode cX9_longest 27 = .ok (.getfield 147, 3) := by decide +kernel
theorem dX9_longest_30 : decode cX9_longest 30 = .ok (.istore 4, 2) := by decide +kernel
theorem dX9_longest_32 : decode cX9_longest 32 = .ok (.iconst 0, 1) := by decide +kernel
theorem dX9_longest_33 : decode cX9_longest 33 = .ok (.istore 5, 2) := by decide +kernel
theorem dX9_longest_35 : decode cX9_longest 35 = .ok (.iload 5, 2) := by decide +kernel
theorem dX9_longest_37 : decode cX9_longest 37 = .ok (.iload_n 2, 1) := by decide +kernel
theorem dX9_longest_38 : decode cX9_longest 38 = .ok (.if_icmp .ge 25, 3) := by decide +kernel
theorem dX9_longest_41 : decode cX9_longest 41 = .ok (.aload_n 0, 1) := by decide +kernel
theorem dX9_longest_42 : decode cX9_longest 42 = .ok (.iconst 1, 1) := by decide +kernel
theorem dX9_longest_43 : decode cX9_longest 43 = .ok (.invokevirtual 247, 3) := by decide +kernel
theorem dX9_longest_46 : decode cX9_longest 46 = .ok (.iload 4, 2) := by decide +kernel
theorem dX9_longest_48 : decode cX9_longest 48 = .ok (.aload_n 3, 1) := by decide +kernel
theorem dX9_longest_49 : decode cX9_longest 49 = .ok (.getfield 147, 3) := by decide +kernel
theorem dX9_longest_52 : decode cX9_longest 52 = .ok (.invokestatic 250, 3) := by decide +kernel
theorem dX9_longest_55 : decode cX9_longest 55 = .ok (.istore 4, 2) := by decide +kernel
theorem dX9_longest_57 : decode cX9_longest 57 = .ok (.iinc 5 1, 3) := by decide +kernel
theorem dX9_longest_60 : decode cX9_longest 60 = .ok (.goto (-25), 3) := by decide +kernel
theorem dX9_longest_63 : decode cX9_longest 63 = .ok (.iload 4, 2) := by decide +kernel
theorem dX9_longest_65 : decode cX9_longest 65 = .ok (.ireturn, 1) := by decide +kernel
theorem dX9_moves_0 : decode cX9_moves 0 = .ok (.aload_n 0, 1) := by decide +kernel
theorem dX9_moves_1 : decode cX9_moves 1 = .ok (.iload_n 1, 1) := by decide +kernel
theorem dX9_moves_2 : decode cX9_moves 2 = .ok (.invokevirtual 121, 3) := by decide +kernel
theorem dX9_moves_5 : decode cX9_moves 5 = .ok (.ifCond .eq 22, 3) := by decide +kernel
theorem dX9_moves_8 : decode cX9_moves 8 = .ok (.iload_n 2, 1) := by decide +kernel
theorem dX9_moves_9 : decode cX9_moves 9 = .ok (.iconst 1, 1) := by decide +kernel
theorem dX9_moves_10 : decode cX9_moves 10 = .ok (.bipush 60, 2) := by decide +kernel
theorem dX9_moves_12 : decode cX9_moves 12 = .ok (.invokestatic 194, 3) := by decide +kernel
theorem dX9_moves_15 : decode cX9_moves 15 = .ok (.ifCond .eq 12, 3) := by decide +kernel
theorem dX9_moves_18 : decode cX9_moves 18 = .ok (.iload_n 3, 1) := by decide +kernel
theorem dX9_moves_19 : decode cX9_moves 19 = .ok (.iconst 0, 1) := by decide +kernel
theorem dX9_moves_20 : decode cX9_moves 20 = .ok (.iconst 1, 1) := by decide +kernel
theorem dX9_moves_21 : decode cX9_moves 21 = .ok (.invokestatic 194, 3) := by decide +kernel
theorem dX9_moves_24 : decode cX9_moves 24 = .ok (.ifCond .ne 5, 3) := by decide +kernel
theorem dX9_moves_27 : decode cX9_moves 27 = .ok (.iconst (-1), 1) := by decide +kernel
theorem dX9_moves_28 : decode cX9_moves 28 = .ok (.ireturn, 1) := by decide +kernel
theorem dX9_moves_29 : decode cX9_moves 29 = .ok (.iconst 0, 1) := by decide +kernel
theorem dX9_moves_30 : decode cX9_moves 30 = .ok (.istore 4, 2) := by decide +kernel
theorem dX9_moves_32 : decode cX9_moves 32 = .ok (.iconst (-1), 1) := by decide +kernel
theorem dX9_moves_33 : decode cX9_moves 33 = .ok (.istore 5, 2) := by decide +kernel
theorem dX9_moves_35 : decode cX9_moves 35 = .ok (.iconst 0, 1) := by decide +kernel
theorem dX9_moves_36 : decode cX9_moves 36 = .ok (.istore 6, 2) := by decide +kernel
theorem dX9_moves_38 : decode cX9_moves 38 = .ok (.iload 6, 2) := by decide +kernel
theorem dX9_moves_40 : decode cX9_moves 40 = .ok (.bipush 99, 2) := by decide +kernel
theorem dX9_moves_42 : decode cX9_moves 42 = .ok (.if_icmp .gt 63, 3) := by decide +kernel
theorem dX9_moves_45 : decode cX9_moves 45 = .ok (.aload_n 0, 1) := by decide +kernel
theorem dX9_moves_46 : decode cX9_moves 46 = .ok (.iload_n 1, 1) := by decide +kernel
theorem dX9_moves_47 : decode cX9_moves 47 = .ok (.invokevirtual 243, 3) := by decide +kernel
theorem dX9_moves_50 : decode cX9_moves 50 = .ok (.astore 7, 2) := by decide +kernel
theorem dX9_moves_52 : decode cX9_moves 52 = .ok (.aload 7, 2) := by decide +kernel
theorem dX9_moves_54 : decode cX9_moves 54 = .ok (.iload 6, 2) := by decide +kernel
theorem dX9_moves_56 : decode cX9_moves 56 = .ok (.putfield 136, 3) := by decide +kernel
theorem dX9_moves_59 : decode cX9_moves 59 = .ok (.aload_n 0, 1) := by decide +kernel
theorem dX9_moves_60 : decode cX9_moves 60 = .ok (.iload_n 2, 1) := by decide +kernel
theorem dX9_moves_61 : decode cX9_moves 61 = .ok (.invokevirtual 247, 3) := by decide +kernel
theorem dX9_moves_64 : decode cX9_moves 64 = .ok (.aload 7, 2) := by decide +kernel
theorem dX9_moves_66 : decode cX9_moves 66 = .ok (.getfield 156, 3) := by decide +kernel
theorem dX9_moves_69 : decode cX9_moves 69 = .ok (.aload_n 0, 1) := by decide +kernel
theorem dX9_moves_70 : decode cX9_moves 70 = .ok (.getfield 38, 3) := by decide +kernel
theorem dX9_moves_73 : decode cX9_moves 73 = .ok (.getfield 132, 3) := by decide +kernel
theorem dX9_moves_76 : decode cX9_moves 76 = .ok (.iload_n 1, 1) := by decide +kernel
theorem dX9_moves_77 : decode cX9_moves 77 = .ok (.aaload, 1) := by decide +kernel
theorem dX9_moves_78 : decode cX9_moves 78 = .ok (.getfield 156, 3) := by decide +kernel
theorem dX9_moves_81 : decode cX9_moves 81 = .ok (.isub, 1) := by decide +kernel
theorem dX9_moves_82 : decode cX9_moves 82 = .ok (.istore 8, 2) := by decide +kernel
theorem dX9_moves_84 : decode cX9_moves 84 = .ok (.iload 8, 2) := by decide +kernel
theorem dX9_moves_86 : decode cX9_moves 86 = .ok (.iload 5, 2) := by decide +kernel
theorem dX9_moves_88 : decode cX9_moves 88 = .ok (.if_icmp .le 11, 3) := by decide +kernel
theorem dX9_moves_91 : decode cX9_moves 91 = .ok (.iload 8, 2) := by decide +kernel
theorem dX9_moves_93 : decode cX9_moves 93 = .ok (.istore 5, 2) := by decide +kernel
theorem dX9_moves_95 : decode cX9_moves 95 = .ok (.iload 6, 2) := by decide +kernel
theorem dX9_moves_97 : decode cX9_moves 97 = .ok (.istore 4, 2) := by decide +kernel
theorem dX9_moves_99 : decode cX9_moves 99 = .ok (.iinc 6 1, 3) := by decide +kernel
theorem dX9_moves_102 : decode cX9_moves 102 = .ok (.goto (-64), 3) := by decide +kernel
theorem dX9_moves_105 : decode cX9_moves 105 = .ok (.iload_n 3, 1) := by decide +kernel
theorem dX9_moves_106 : decode cX9_moves 106 = .ok (.ifCond .ne 8, 3) := by decide +kernel
theorem dX9_moves_109 : decode cX9_moves 109 = .ok (.iload 4, 2) := by decide +kernel
theorem dX9_moves_111 : decode cX9_moves 111 = .ok (.goto 5, 3) := by decide +kernel
theorem dX9_moves_114 : decode cX9_moves 114 = .ok (.iload 5, 2) := by decide +kernel
theorem dX9_moves_116 : decode cX9_moves 116 = .ok (.ireturn, 1) := by decide +kernel
theorem dX9_deeds_0 : decode cX9_deeds 0 = .ok (.aload_n 0, 1) := by decide +kernel
theorem dX9_deeds_1 : decode cX9_deeds 1 = .ok (.iload_n 1, 1) := by decide +kernel
theorem dX9_deeds_2 : decode cX9_deeds 2 = .ok (.invokevirtual 121, 3) := by decide +kernel
theorem dX9_deeds_5 : decode cX9_deeds 5 = .ok (.ifCond .eq 12, 3) := by decide +kernel
theorem dX9_deeds_8 : decode cX9_deeds 8 = .ok (.iload_n 2, 1) := by decide +kernel
theorem dX9_deeds_9 : decode cX9_deeds 9 = .ok (.iconst 0, 1) := by decide +kernel
theorem dX9_deeds_10 : decode cX9_deeds 10 = .ok (.iconst 4, 1) := by decide +kernel
theorem dX9_deeds_11 : decode cX9_deeds 11 = .ok (.invokestatic 194, 3) := by decide +kernel
theorem dX9_deeds_14 : decode cX9_deeds 14 = .ok (.ifCond .ne 5, 3) := by decide +kernel
theorem dX9_deeds_17 : decode cX9_deeds 17 = .ok (.iconst (-1), 1) := by decide +kernel
theorem dX9_deeds_18 : decode cX9_deeds 18 = .ok (.ireturn, 1) := by decide +kernel
theorem dX9_deeds_19 : decode cX9_deeds 19 = .ok (.iload_n 2, 1) := by decide +kernel
theorem dX9_deeds_20 : decode cX9_deeds 20 = .ok (.iconst 4, 1) := by decide +kernel
theorem dX9_deeds_21 : decode cX9_deeds 21 = .ok (.if_icmp .ge 17, 3) := by decide +kernel
theorem dX9_deeds_24 : decode cX9_deeds 24 = .ok (.iload_n 2, 1) := by decide +kernel
theorem dX9_deeds_25 : decode cX9_deeds 25 = .ok (.aload_n 0, 1) := by decide +kernel
theorem dX9_deeds_26 : decode cX9_deeds 26 = .ok (.getfield 28, 3) := by decide +kernel
theorem dX9_deeds_29 : decode cX9_deeds 29 = .ok (.getfield 118, 3) := by decide +kernel
theorem dX9_deeds_32 : decode cX9_deeds 32 = .ok (.if_icmp .lt 6, 3) := by decide +kernel
theorem dX9_deeds_35 : decode cX9_deeds 35 = .ok (.bipush (-2), 2) := by decide +kernel
theorem dX9_deeds_37 : decode cX9_deeds 37 = .ok (.ireturn, 1) := by decide +kernel
theorem dX9_deeds_38 : decode cX9_deeds 38 = .ok (.aload_n 0, 1) := by decide +kernel
theorem dX9_deeds_39 : decode cX9_deeds 39 = .ok (.aload_n 0, 1) := by decide +kernel
theorem dX9_deeds_40 : decode cX9_deeds 40 = .ok (.getfield 38, 3) := by decide +kernel
theorem dX9_deeds_43 : decode cX9_deeds 43 = .ok (.getfield 132, 3) := by decide +kernel
theorem dX9_deeds_46 : decode cX9_deeds 46 = .ok (.iload_n 1, 1) := by decide +kernel
theorem dX9_deeds_47 : decode cX9_deeds 47 = .ok (.aaload, 1) := by decide +kernel
theorem dX9_deeds_48 : decode cX9_deeds 48 = .ok (.invokevirtual 256, 3) := by decide +kernel
theorem dX9_deeds_51 : decode cX9_deeds 51 = .ok (.ifCond .eq 12, 3) := by decide +kernel
theorem dX9_deeds_54 : decode cX9_deeds 54 = .ok (.aload_n 0, 1) := by decide +kernel
theorem dX9_deeds_55 : decode cX9_deeds 55 = .ok (.getfield 66, 3) := by decide +kernel
theorem dX9_deeds_58 : decode cX9_deeds 58 = .ok (.iload_n 2, 1) := by decide +kernel
theorem dX9_deeds_59 : decode cX9_deeds 59 = .ok (.iaload, 1) := by decide +kernel
theorem dX9_deeds_60 : decode cX9_deeds 60 = .ok (.goto 5, 3) := by decide +kernel
theorem dX9_deeds_63 : decode cX9_deeds 63 = .ok (.bipush (-3), 2) := by decide +kernel
theorem dX9_deeds_65 : decode cX9_deeds 65 = .ok (.ireturn, 1) := by decide +kernel
theorem dX9_leads_0 : decode cX9_leads 0 = .ok (.aload_n 0, 1) := by decide +kernel
theorem dX9_leads_1 : decode cX9_leads 1 = .ok (.getfield 38, 3) := by decide +kernel
theorem dX9_leads_4 : decode cX9_leads 4 = .ok (.aload_n 0, 1) := by decide +kernel
theorem dX9_leads_5 : decode cX9_leads 5 = .ok (.getfield 28, 3) := by decide +kernel
theorem dX9_leads_8 : decode cX9_leads 8 = .ok (.getfield 108, 3) := by decide +kernel
theorem dX9_leads_11 : decode cX9_leads 11 = .ok (.invokevirtual 260, 3) := by decide +kernel
theorem dX9_leads_14 : decode cX9_leads 14 = .ok (.ireturn, 1) := by decide +kernel
theorem dX9_winner_0 : decode cX9_winner 0 = .ok (.iload_n 1, 1) := by decide +kernel
theorem dX9_winner_1 : decode cX9_winner 1 = .ok (.iconst 0, 1) := by decide +kernel
theorem dX9_winner_2 : decode cX9_winner 2 = .ok (.iconst 1, 1) := by decide +kernel
theorem dX9_winner_3 : decode cX9_winner 3 = .ok (.invokestatic 194, 3) := by decide +kernel
theorem dX9_winner_6 : decode cX9_winner 6 = .ok (.ifCond .eq 13, 3) := by decide +kernel
theorem dX9_winner_9 : decode cX9_winner 9 = .ok (.aload_n 0, 1) := by decide +kernel
theorem dX9_winner_10 : decode cX9_winner 10 = .ok (.getfield 28, 3) := by decide +kernel
theorem dX9_winner_13 : decode cX9_winner 13 = .ok (.getfield 108, 3) := by decide +kernel
theorem dX9_winner_16 : decode cX9_winner 16 = .ok (.ifCond .ne 5, 3) := by decide +kernel
theorem dX9_winner_19 : decode cX9_winner 19 = .ok (.iconst (-1), 1) := by decide +kernel
theorem dX9_winner_20 : decode cX9_winner 20 = .ok (.ireturn, 1) := by decide +kernel
theorem dX9_winner_21 : decode cX9_winner 21 = .ok (.iload_n 1, 1) := by decide +kernel
theorem dX9_winner_22 : decode cX9_winner 22 = .ok (.iconst 1, 1) := by decide +kernel
theorem dX9_winner_23 : decode cX9_winner 23 = .ok (.if_icmp .ne 8, 3) := by decide +kernel
theorem dX9_winner_26 : decode cX9_winner 26 = .ok (.aload_n 0, 1) := by decide +kernel
theorem dX9_winner_27 : decode cX9_winner 27 = .ok (.invokevirtual 264, 3) := by decide +kernel
theorem dX9_winner_30 : decode cX9_winner 30 = .ok (.ireturn, 1) := by decide +kernel
theorem dX9_winner_31 : decode cX9_winner 31 = .ok (.aload_n 0, 1) := by decide +kernel
theorem dX9_winner_32 : decode cX9_winner 32 = .ok (.invokevirtual 268, 3) := by decide +kernel
theorem dX9_winner_35 : decode cX9_winner 35 = .ok (.aload_n 0, 1) := by decide +kernel
theorem dX9_winner_36 : decode cX9_winner 36 = .ok (.aload_n 0, 1) := by decide +kernel
theorem dX9_winner_37 : decode cX9_winner 37 = .ok (.invokevirtual 264, 3) := by decide +kernel
theorem dX9_winner_40 : decode cX9_winner 40 = .ok (.invokevirtual 247, 3) := by decide +kernel
theorem dX9_winner_43 : decode cX9_winner 43 = .ok (.aload_n 0, 1) := by decide +kernel
theorem dX9_winner_44 : decode cX9_winner 44 = .ok (.getfield 45, 3) := by decide +kernel
theorem dX9_winner_47 : decode cX9_winner 47 = .ok (.getfield 271, 3) := by decide +kernel
theorem dX9_winner_50 : decode cX9_winner 50 = .ok (.ireturn, 1) := by decide +kernel
theorem dX9_needs_0 : decode cX9_needs 0 = .ok (.aload_n 0, 1) := by decide +kernel
theorem dX9_needs_1 : decode cX9_needs 1 = .ok (.iload_n 1, 1) := by decide +kernel
theorem dX9_needs_2 : decode cX9_needs 2 = .ok (.invokevirtual 121, 3) := by decide +kernel
theorem dX9_needs_5 : decode cX9_needs 5 = .ok (.ifCond .ne 5, 3) := by decide +kernel
theorem dX9_needs_8 : decode cX9_needs 8 = .ok (.iconst (-1), 1) := by decide +kernel
theorem dX9_needs_9 : decode cX9_needs 9 = .ok (.ireturn, 1) := by decide +kernel
theorem dX9_needs_10 : decode cX9_needs 10 = .ok (.aload_n 0, 1) := by decide +kernel
theorem dX9_needs_11 : decode cX9_needs 11 = .ok (.getfield 28, 3) := by decide +kernel
theorem dX9_needs_14 : decode cX9_needs 14 = .ok (.getfield 198, 3) := by decide +kernel
theorem dX9_needs_17 : decode cX9_needs 17 = .ok (.invokevirtual 274, 3) := by decide +kernel
theorem dX9_needs_20 : decode cX9_needs 20 = .ok (.ifCond .eq 11, 3) := by decide +kernel
theorem dX9_needs_23 : decode cX9_needs 23 = .ok (.aload_n 0, 1) := by decide +kernel
theorem dX9_needs_24 : decode cX9_needs 24 = .ok (.iload_n 1, 1) := by decide +kernel
theorem dX9_needs_25 : decode cX9_needs 25 = .ok (.invokevirtual 277, 3) := by decide +kernel
theorem dX9_needs_28 : decode cX9_needs 28 = .ok (.goto 8, 3) := by decide +kernel
theorem dX9_needs_31 : decode cX9_needs 31 = .ok (.aload_n 0, 1) := by decide +kernel
theorem dX9_needs_32 : decode cX9_needs 32 = .ok (.iload_n 1, 1) := by decide +kernel
theorem dX9_needs_33 : decode cX9_needs 33 = .ok (.invokevirtual 280, 3) := by decide +kernel
theorem dX9_needs_36 : decode cX9_needs 36 = .ok (.ireturn, 1) := by decide +kernel
theorem dX9_rests_0 : decode cX9_rests 0 = .ok (.aload_n 0, 1) := by decide +kernel
theorem dX9_rests_1 : decode cX9_rests 1 = .ok (.iload_n 1, 1) := by decide +kernel
theorem dX9_rests_2 : decode cX9_rests 2 = .ok (.invokevirtual 121, 3) := by decide +kernel
theorem dX9_rests_5 : decode cX9_rests 5 = .ok (.ifCond .eq 16, 3) := by decide +kernel
theorem dX9_rests_8 : decode cX9_rests 8 = .ok (.aload_n 0, 1) := by decide +kernel
theorem dX9_rests_9 : decode cX9_rests 9 = .ok (.iload_n 2, 1) := by decide +kernel
theorem dX9_rests_10 : decode cX9_rests 10 = .ok (.invokevirtual 121, 3) := by decide +kernel
theorem dX9_rests_13 : decode cX9_rests 13 = .ok (.ifCond .eq 8, 3) := by decide +kernel
theorem dX9_rests_16 : decode cX9_rests 16 = .ok (.iload_n 1, 1) := by decide +kernel
theorem dX9_rests_17 : decode cX9_rests 17 = .ok (.iload_n 2, 1) := by decide +kernel
theorem dX9_rests_18 : decode cX9_rests 18 = .ok (.if_icmp .ne 5, 3) := by decide +kernel
theorem dX9_rests_21 : decode cX9_rests 21 = .ok (.iconst (-1), 1) := by decide +kernel
theorem dX9_rests_22 : decode cX9_rests 22 = .ok (.ireturn, 1) := by decide +kernel
theorem dX9_rests_23 : decode cX9_rests 23 = .ok (.aload_n 0, 1) := by decide +kernel
theorem dX9_rests_24 : decode cX9_rests 24 = .ok (.iload_n 1, 1) := by decide +kernel
theorem dX9_rests_25 : decode cX9_rests 25 = .ok (.iload_n 2, 1) := by decide +kernel
theorem dX9_rests_26 : decode cX9_rests 26 = .ok (.invokevirtual 283, 3) := by decide +kernel
theorem dX9_rests_29 : decode cX9_rests 29 = .ok (.iconst 0, 1) := by decide +kernel
theorem dX9_rests_30 : decode cX9_rests 30 = .ok (.istore_n 3, 1) := by decide +kernel
theorem dX9_rests_31 : decode cX9_rests 31 = .ok (.iconst 0, 1) := by decide +kernel
theorem dX9_rests_32 : decode cX9_rests 32 = .ok (.istore 4, 2) := by decide +kernel
theorem dX9_rests_34 : decode cX9_rests 34 = .ok (.iload 4, 2) := by decide +kernel
theorem dX9_rests_36 : decode cX9_rests 36 = .ok (.aload_n 0, 1) := by decide +kernel
theorem dX9_rests_37 : decode cX9_rests 37 = .ok (.getfield 62, 3) := by decide +kernel
theorem dX9_rests_40 : decode cX9_rests 40 = .ok (.arraylength, 1) := by decide +kernel
theorem dX9_rests_41 : decode cX9_rests 41 = .ok (.if_icmp .ge 23, 3) := by decide +kernel
theorem dX9_rests_44 : decode cX9_rests 44 = .ok (.aload_n 0, 1) := by decide +kernel
theorem dX9_rests_45 : decode cX9_rests 45 = .ok (.iload_n 1, 1) := by decide +kernel
theorem dX9_rests_46 : decode cX9_rests 46 = .ok (.iload_n 2, 1) := by decide +kernel
theorem dX9_rests_47 : decode cX9_rests 47 = .ok (.iload 4, 2) := by decide +kernel
theorem dX9_rests_49 : decode cX9_rests 49 = .ok (.invokevirtual 287, 3) := by decide +kernel
theorem dX9_rests_52 : decode cX9_rests 52 = .ok (.ifCond .eq 6, 3) := by decide +kernel
theorem dX9_rests_55 : decode cX9_rests 55 = .ok (.iinc 3 1, 3) := by decide +kernel
theorem dX9_rests_58 : decode cX9_rests 58 = .ok (.iinc 4 1, 3) := by decide +kernel
theorem dX9_rests_61 : decode cX9_rests 61 = .ok (.goto (-27), 3) := by decide +kernel
theorem dX9_rests_64 : decode cX9_rests 64 = .ok (.iload_n 3, 1) := by decide +kernel
theorem dX9_rests_65 : decode cX9_rests 65 = .ok (.ireturn, 1) := by decide +kernel
theorem dX9_rest_0 : decode cX9_rest 0 = .ok (.aload_n 0, 1) := by decide +kernel
theorem dX9_rest_1 : decode cX9_rest 1 = .ok (.iload_n 1, 1) := by decide +kernel
theorem dX9_rest_2 : decode cX9_rest 2 = .ok (.invokevirtual 121, 3) := by decide +kernel
theorem dX9_rest_5 : decode cX9_rest 5 = .ok (.ifCond .eq 20, 3) := by decide +kernel
theorem dX9_rest_8 : decode cX9_rest 8 = .ok (.aload_n 0, 1) := by decide +kernel
theorem dX9_rest_9 : decode cX9_rest 9 = .ok (.iload_n 2, 1) := by decide +kernel
theorem dX9_rest_10 : decode cX9_rest 10 = .ok (.invokevirtual 121, 3) := by decide +kernel
theorem dX9_rest_13 : decode cX9_rest 13 = .ok (.ifCond .eq 12, 3) := by decide +kernel
theorem dX9_rest_16 : decode cX9_rest 16 = .ok (.iload_n 1, 1) := by decide +kernel
theorem dX9_rest_17 : decode cX9_rest 17 = .ok (.iload_n 2, 1) := by decide +kernel
theorem dX9_rest_18 : decode cX9_rest 18 = .ok (.if_icmp .eq 7, 3) := by decide +kernel
theorem dX9_rest_21 : decode cX9_rest 21 = .ok (.iload_n 3, 1) := by decide +kernel
theorem dX9_rest_22 : decode cX9_rest 22 = .ok (.ifCond .ge 5, 3) := by decide +kernel
theorem dX9_rest_25 : decode cX9_rest 25 = .ok (.iconst (-1), 1) := by decide +kernel
theorem dX9_rest_26 : decode cX9_rest 26 = .ok (.ireturn, 1) := by decide +kernel
theorem dX9_rest_27 : decode cX9_rest 27 = .ok (.aload_n 0, 1) := by decide +kernel
theorem dX9_rest_28 : decode cX9_rest 28 = .ok (.iload_n 1, 1) := by decide +kernel
theorem dX9_rest_29 : decode cX9_rest 29 = .ok (.iload_n 2, 1) := by decide +kernel
theorem dX9_rest_30 : decode cX9_rest 30 = .ok (.invokevirtual 283, 3) := by decide +kernel
theorem dX9_rest_33 : decode cX9_rest 33 = .ok (.iload_n 3, 1) := by decide +kernel
theorem dX9_rest_34 : decode cX9_rest 34 = .ok (.istore 4, 2) := by decide +kernel
theorem dX9_rest_36 : decode cX9_rest 36 = .ok (.iconst 0, 1) := by decide +kernel
theorem dX9_rest_37 : decode cX9_rest 37 = .ok (.istore 5, 2) := by decide +kernel
theorem dX9_rest_39 : decode cX9_rest 39 = .ok (.iload 5, 2) := by decide +kernel
theorem dX9_rest_41 : decode cX9_rest 41 = .ok (.aload_n 0, 1) := by decide +kernel
theorem dX9_rest_42 : decode cX9_rest 42 = .ok (.getfield 62, 3) := by decide +kernel
theorem dX9_rest_45 : decode cX9_rest 45 = .ok (.arraylength, 1) := by decide +kernel
theorem dX9_rest_46 : decode cX9_rest 46 = .ok (.if_icmp .ge 41, 3) := by decide +kernel
theorem dX9_rest_49 : decode cX9_rest 49 = .ok (.aload_n 0, 1) := by decide +kernel
theorem dX9_rest_50 : decode cX9_rest 50 = .ok (.iload_n 1, 1) := by decide +kernel
theorem dX9_rest_51 : decode cX9_rest 51 = .ok (.iload_n 2, 1) := by decide +kernel
theorem dX9_rest_52 : decode cX9_rest 52 = .ok (.iload 5, 2) := by decide +kernel
theorem dX9_rest_54 : decode cX9_rest 54 = .ok (.invokevirtual 287, 3) := by decide +kernel
theorem dX9_rest_57 : decode cX9_rest 57 = .ok (.ifCond .eq 24, 3) := by decide +kernel
theorem dX9_rest_60 : decode cX9_rest 60 = .ok (.iload 4, 2) := by decide +kernel
theorem dX9_rest_62 : decode cX9_rest 62 = .ok (.ifCond .ne 16, 3) := by decide +kernel
theorem dX9_rest_65 : decode cX9_rest 65 = .ok (.bipush 10, 2) := by decide +kernel
theorem dX9_rest_67 : decode cX9_rest 67 = .ok (.iload 5, 2) := by decide +kernel
theorem dX9_rest_69 : decode cX9_rest 69 = .ok (.iconst 5, 1) := by decide +kernel
theorem dX9_rest_70 : decode cX9_rest 70 = .ok (.idiv, 1) := by decide +kernel
theorem dX9_rest_71 : decode cX9_rest 71 = .ok (.imul, 1) := by decide +kernel
theorem dX9_rest_72 : decode cX9_rest 72 = .ok (.iload 5, 2) := by decide +kernel
theorem dX9_rest_74 : decode cX9_rest 74 = .ok (.iconst 5, 1) := by decide +kernel
theorem dX9_rest_75 : decode cX9_rest 75 = .ok (.irem, 1) := by decide +kernel
theorem dX9_rest_76 : decode cX9_rest 76 = .ok (.iadd, 1) := by decide +kernel
theorem dX9_rest_77 : decode cX9_rest 77 = .ok (.ireturn, 1) := by decide +kernel
theorem dX9_rest_78 : decode cX9_rest 78 = .ok (.iinc 4 (-1), 3) := by decide +kernel
theorem dX9_rest_81 : decode cX9_rest 81 = .ok (.iinc 5 1, 3) := by decide +kernel
theorem dX9_rest_84 : decode cX9_rest 84 = .ok (.goto (-45), 3) := by decide +kernel
theorem dX9_rest_87 : decode cX9_rest 87 = .ok (.bipush (-2), 2) := by decide +kernel
theorem dX9_rest_89 : decode cX9_rest 89 = .ok (.ireturn, 1) := by decide +kernel
theorem dX9_rank_0 : decode cX9_rank 0 = .ok (.aload_n 0, 1) := by decide +kernel
theorem dX9_rank_1 : decode cX9_rank 1 = .ok (.iload_n 1, 1) := by decide +kernel
theorem dX9_rank_2 : decode cX9_rank 2 = .ok (.invokevirtual 121, 3) := by decide +kernel
theorem dX9_rank_5 : decode cX9_rank 5 = .ok (.ifCond .ne 5, 3) := by decide +kernel
theorem dX9_rank_8 : decode cX9_rank 8 = .ok (.iconst (-1), 1) := by decide +kernel
theorem dX9_rank_9 : decode cX9_rank 9 = .ok (.ireturn, 1) := by decide +kernel
theorem dX9_rank_10 : decode cX9_rank 10 = .ok (.aload_n 0, 1) := by decide +kernel
theorem dX9_rank_11 : decode cX9_rank 11 = .ok (.getfield 38, 3) := by decide +kernel
theorem dX9_rank_14 : decode cX9_rank 14 = .ok (.getfield 132, 3) := by decide +kernel
theorem dX9_rank_17 : decode cX9_rank 17 = .ok (.iload_n 1, 1) := by decide +kernel
theorem dX9_rank_18 : decode cX9_rank 18 = .ok (.aaload, 1) := by decide +kernel
theorem dX9_rank_19 : decode cX9_rank 19 = .ok (.getfield 153, 3) := by decide +kernel
theorem dX9_rank_22 : decode cX9_rank 22 = .ok (.istore_n 2, 1) := by decide +kernel
theorem dX9_rank_23 : decode cX9_rank 23 = .ok (.iconst 0, 1) := by decide +kernel
theorem dX9_rank_24 : decode cX9_rank 24 = .ok (.istore_n 3, 1) := by decide +kernel
theorem dX9_rank_25 : decode cX9_rank 25 = .ok (.iconst 0, 1) := by decide +kernel
theorem dX9_rank_26 : decode cX9_rank 26 = .ok (.istore 4, 2) := by decide +kernel
theorem dX9_rank_28 : decode cX9_rank 28 = .ok (.iload 4, 2) := by decide +kernel
theorem dX9_rank_30 : decode cX9_rank 30 = .ok (.aload_n 0, 1) := by decide +kernel
theorem dX9_rank_31 : decode cX9_rank 31 = .ok (.getfield 28, 3) := by decide +kernel
theorem dX9_rank_34 : decode cX9_rank 34 = .ok (.getfield 108, 3) := by decide +kernel
theorem dX9_rank_37 : decode cX9_rank 37 = .ok (.if_icmp .ge 45, 3) := by decide +kernel
theorem dX9_rank_40 : decode cX9_rank 40 = .ok (.aload_n 0, 1) := by decide +kernel
theorem dX9_rank_41 : decode cX9_rank 41 = .ok (.getfield 38, 3) := by decide +kernel
theorem dX9_rank_44 : decode cX9_rank 44 = .ok (.getfield 132, 3) := by decide +kernel
theorem dX9_rank_47 : decode cX9_rank 47 = .ok (.iload 4, 2) := by decide +kernel
theorem dX9_rank_49 : decode cX9_rank 49 = .ok (.aaload, 1) := by decide +kernel
theorem dX9_rank_50 : decode cX9_rank 50 = .ok (.getfield 153, 3) := by decide +kernel
theorem dX9_rank_53 : decode cX9_rank 53 = .ok (.istore 5, 2) := by decide +kernel
theorem dX9_rank_55 : decode cX9_rank 55 = .ok (.iload 5, 2) := by decide +kernel
theorem dX9_rank_57 : decode cX9_rank 57 = .ok (.iload_n 2, 1) := by decide +kernel
theorem dX9_rank_58 : decode cX9_rank 58 = .ok (.if_icmp .gt 15, 3) := by decide +kernel
theorem dX9_rank_61 : decode cX9_rank 61 = .ok (.iload 5, 2) := by decide +kernel
theorem dX9_rank_63 : decode cX9_rank 63 = .ok (.iload_n 2, 1) := by decide +kernel
theorem dX9_rank_64 : decode cX9_rank 64 = .ok (.if_icmp .ne 12, 3) := by decide +kernel
theorem dX9_rank_67 : decode cX9_rank 67 = .ok (.iload 4, 2) := by decide +kernel
theorem dX9_rank_69 : decode cX9_rank 69 = .ok (.iload_n 1, 1) := by decide +kernel
theorem dX9_rank_70 : decode cX9_rank 70 = .ok (.if_icmp .ge 6, 3) := by decide +kernel
theorem dX9_rank_73 : decode cX9_rank 73 = .ok (.iinc 3 1, 3) := by decide +kernel
theorem dX9_rank_76 : decode cX9_rank 76 = .ok (.iinc 4 1, 3) := by decide +kernel
theorem dX9_rank_79 : decode cX9_rank 79 = .ok (.goto (-51), 3) := by decide +kernel
theorem dX9_rank_82 : decode cX9_rank 82 = .ok (.iload_n 3, 1) := by decide +kernel
theorem dX9_rank_83 : decode cX9_rank 83 = .ok (.ireturn, 1) := by decide +kernel
theorem dX9_falls_0 : decode cX9_falls 0 = .ok (.aload_n 0, 1) := by decide +kernel
theorem dX9_falls_1 : decode cX9_falls 1 = .ok (.iload_n 1, 1) := by decide +kernel
theorem dX9_falls_2 : decode cX9_falls 2 = .ok (.invokevirtual 121, 3) := by decide +kernel
theorem dX9_falls_5 : decode cX9_falls 5 = .ok (.ifCond .eq 13, 3) := by decide +kernel
theorem dX9_falls_8 : decode cX9_falls 8 = .ok (.iload_n 2, 1) := by decide +kernel
theorem dX9_falls_9 : decode cX9_falls 9 = .ok (.iconst 0, 1) := by decide +kernel
theorem dX9_falls_10 : decode cX9_falls 10 = .ok (.bipush 99, 2) := by decide +kernel
theorem dX9_falls_12 : decode cX9_falls 12 = .ok (.invokestatic 194, 3) := by decide +kernel
theorem dX9_falls_15 : decode cX9_falls 15 = .ok (.ifCond .ne 5, 3) := by decide +kernel
theorem dX9_falls_18 : decode cX9_falls 18 = .ok (.iconst (-1), 1) := by decide +kernel
theorem dX9_falls_19 : decode cX9_falls 19 = .ok (.ireturn, 1) := by decide +kernel
theorem dX9_falls_20 : decode cX9_falls 20 = .ok (.aload_n 0, 1) := by decide +kernel
theorem dX9_falls_21 : decode cX9_falls 21 = .ok (.iload_n 1, 1) := by decide +kernel
theorem dX9_falls_22 : decode cX9_falls 22 = .ok (.invokevirtual 243, 3) := by decide +kernel
theorem dX9_falls_25 : decode cX9_falls 25 = .ok (.astore_n 3, 1) := by decide +kernel
theorem dX9_falls_26 : decode cX9_falls 26 = .ok (.aload_n 0, 1) := by decide +kernel
theorem dX9_falls_27 : decode cX9_falls 27 = .ok (.iload_n 2, 1) := by decide +kernel
theorem dX9_falls_28 : decode cX9_falls 28 = .ok (.invokevirtual 247, 3) := by decide +kernel
theorem dX9_falls_31 : decode cX9_falls 31 = .ok (.aload_n 3, 1) := by decide +kernel
theorem dX9_falls_32 : decode cX9_falls 32 = .ok (.getfield 150, 3) := by decide +kernel
theorem dX9_falls_35 : decode cX9_falls 35 = .ok (.aload_n 0, 1) := by decide +kernel
theorem dX9_falls_36 : decode cX9_falls 36 = .ok (.getfield 38, 3) := by decide +kernel
theorem dX9_falls_39 : decode cX9_falls 39 = .ok (.getfield 132, 3) := by decide +kernel
theorem dX9_falls_42 : decode cX9_falls 42 = .ok (.iload_n 1, 1) := by decide +kernel
theorem dX9_falls_43 : decode cX9_falls 43 = .ok (.aaload, 1) := by decide +kernel
theorem dX9_falls_44 : decode cX9_falls 44 = .ok (.getfield 150, 3) := by decide +kernel
theorem dX9_falls_47 : decode cX9_falls 47 = .ok (.isub, 1) := by decide +kernel
theorem dX9_falls_48 : decode cX9_falls 48 = .ok (.ireturn, 1) := by decide +kernel
theorem dX9_earns_0 : decode cX9_earns 0 = .ok (.aload_n 0, 1) := by decide +kernel
theorem dX9_earns_1 : decode cX9_earns 1 = .ok (.iload_n 1, 1) := by decide +kernel
theorem dX9_earns_2 : decode cX9_earns 2 = .ok (.invokevirtual 121, 3) := by decide +kernel
theorem dX9_earns_5 : decode cX9_earns 5 = .ok (.ifCond .eq 22, 3) := by decide +kernel
theorem dX9_earns_8 : decode cX9_earns 8 = .ok (.iload_n 2, 1) := by decide +kernel
theorem dX9_earns_9 : decode cX9_earns 9 = .ok (.iconst 0, 1) := by decide +kernel
theorem dX9_earns_10 : decode cX9_earns 10 = .ok (.bipush 60, 2) := by decide +kernel
theorem dX9_earns_12 : decode cX9_earns 12 = .ok (.invokestatic 194, 3) := by decide +kernel
theorem dX9_earns_15 : decode cX9_earns 15 = .ok (.ifCond .eq 12, 3) := by decide +kernel
theorem dX9_earns_18 : decode cX9_earns 18 = .ok (.iload_n 3, 1) := by decide +kernel
theorem dX9_earns_19 : decode cX9_earns 19 = .ok (.iconst 0, 1) := by decide +kernel
theorem dX9_earns_20 : decode cX9_earns 20 = .ok (.iconst 1, 1) := by decide +kernel
theorem dX9_earns_21 : decode cX9_earns 21 = .ok (.invokestatic 194, 3) := by decide +kernel
theorem dX9_earns_24 : decode cX9_earns 24 = .ok (.ifCond .ne 5, 3) := by decide +kernel
theorem dX9_earns_27 : decode cX9_earns 27 = .ok (.iconst (-1), 1) := by decide +kernel
theorem dX9_earns_28 : decode cX9_earns 28 = .ok (.ireturn, 1) := by decide +kernel
theorem dX9_earns_29 : decode cX9_earns 29 = .ok (.aload_n 0, 1) := by decide +kernel
theorem dX9_earns_30 : decode cX9_earns 30 = .ok (.invokevirtual 268, 3) := by decide +kernel
theorem dX9_earns_33 : decode cX9_earns 33 = .ok (.aload_n 0, 1) := by decide +kernel
theorem dX9_earns_34 : decode cX9_earns 34 = .ok (.iload_n 2, 1) := by decide +kernel
theorem dX9_earns_35 : decode cX9_earns 35 = .ok (.invokevirtual 247, 3) := by decide +kernel
theorem dX9_earns_38 : decode cX9_earns 38 = .ok (.aload_n 0, 1) := by decide +kernel
theorem dX9_earns_39 : decode cX9_earns 39 = .ok (.getfield 38, 3) := by decide +kernel
theorem dX9_earns_42 : decode cX9_earns 42 = .ok (.getfield 132, 3) := by decide +kernel
theorem dX9_earns_45 : decode cX9_earns 45 = .ok (.iload_n 1, 1) := by decide +kernel
theorem dX9_earns_46 : decode cX9_earns 46 = .ok (.aaload, 1) := by decide +kernel
theorem dX9_earns_47 : decode cX9_earns 47 = .ok (.astore 4, 2) := by decide +kernel
theorem dX9_earns_49 : decode cX9_earns 49 = .ok (.aload_n 0, 1) := by decide +kernel
theorem dX9_earns_50 : decode cX9_earns 50 = .ok (.getfield 45, 3) := by decide +kernel
theorem dX9_earns_53 : decode cX9_earns 53 = .ok (.getfield 132, 3) := by decide +kernel
theorem dX9_earns_56 : decode cX9_earns 56 = .ok (.iload_n 1, 1) := by decide +kernel
theorem dX9_earns_57 : decode cX9_earns 57 = .ok (.aaload, 1) := by decide +kernel
theorem dX9_earns_58 : decode cX9_earns 58 = .ok (.astore 5, 2) := by decide +kernel
theorem dX9_earns_60 : decode cX9_earns 60 = .ok (.iload_n 3, 1) := by decide +kernel
theorem dX9_earns_61 : decode cX9_earns 61 = .ok (.ifCond .ne 17, 3) := by decide +kernel
theorem dX9_earns_64 : decode cX9_earns 64 = .ok (.aload 5, 2) := by decide +kernel
theorem dX9_earns_66 : decode cX9_earns 66 = .ok (.getfield 173, 3) := by decide +kernel
theorem dX9_earns_69 : decode cX9_earns 69 = .ok (.aload 4, 2) := by decide +kernel
theorem dX9_earns_71 : decode cX9_earns 71 = .ok (.getfield 173, 3) := by decide +kernel
theorem dX9_earns_74 : decode cX9_earns 74 = .ok (.isub, 1) := by decide +kernel
theorem dX9_earns_75 : decode cX9_earns 75 = .ok (.goto 14, 3) := by decide +kernel
theorem dX9_earns_78 : decode cX9_earns 78 = .ok (.aload 5, 2) := by decide +kernel
theorem dX9_earns_80 : decode cX9_earns 80 = .ok (.getfield 176, 3) := by decide +kernel
theorem dX9_earns_83 : decode cX9_earns 83 = .ok (.aload 4, 2) := by decide +kernel
theorem dX9_earns_85 : decode cX9_earns 85 = .ok (.getfield 176, 3) := by decide +kernel
theorem dX9_earns_88 : decode cX9_earns 88 = .ok (.isub, 1) := by decide +kernel
theorem dX9_earns_89 : decode cX9_earns 89 = .ok (.ireturn, 1) := by decide +kernel
theorem dX9_falseOnes_0 : decode cX9_falseOnes 0 = .ok (.aload_n 0, 1) := by decide +kernel
theorem dX9_falseOnes_1 : decode cX9_falseOnes 1 = .ok (.iload_n 1, 1) := by decide +kernel
theorem dX9_falseOnes_2 : decode cX9_falseOnes 2 = .ok (.invokevirtual 121, 3) := by decide +kernel
theorem dX9_falseOnes_5 : decode cX9_falseOnes 5 = .ok (.ifCond .eq 12, 3) := by decide +kernel
theorem dX9_falseOnes_8 : decode cX9_falseOnes 8 = .ok (.iload_n 2, 1) := by decide +kernel
theorem dX9_falseOnes_9 : decode cX9_falseOnes 9 = .ok (.iconst 0, 1) := by decide +kernel
theorem dX9_falseOnes_10 : decode cX9_falseOnes 10 = .ok (.iconst 1, 1) := by decide +kernel
theorem dX9_falseOnes_11 : decode cX9_falseOnes 11 = .ok (.invokestatic 194, 3) := by decide +kernel
theorem dX9_falseOnes_14 : decode cX9_falseOnes 14 = .ok (.ifCond .ne 5, 3) := by decide +kernel
theorem dX9_falseOnes_17 : decode cX9_falseOnes 17 = .ok (.iconst (-1), 1) := by decide +kernel
theorem dX9_falseOnes_18 : decode cX9_falseOnes 18 = .ok (.ireturn, 1) := by decide +kernel
theorem dX9_falseOnes_19 : decode cX9_falseOnes 19 = .ok (.aload_n 0, 1) := by decide +kernel
theorem dX9_falseOnes_20 : decode cX9_falseOnes 20 = .ok (.getfield 38, 3) := by decide +kernel
theorem dX9_falseOnes_23 : decode cX9_falseOnes 23 = .ok (.getfield 132, 3) := by decide +kernel
theorem dX9_falseOnes_26 : decode cX9_falseOnes 26 = .ok (.iload_n 1, 1) := by decide +kernel
theorem dX9_falseOnes_27 : decode cX9_falseOnes 27 = .ok (.aaload, 1) := by decide +kernel
theorem dX9_falseOnes_28 : decode cX9_falseOnes 28 = .ok (.astore_n 3, 1) := by decide +kernel
theorem dX9_falseOnes_29 : decode cX9_falseOnes 29 = .ok (.iconst 0, 1) := by decide +kernel
theorem dX9_falseOnes_30 : decode cX9_falseOnes 30 = .ok (.istore 4, 2) := by decide +kernel
theorem dX9_falseOnes_32 : decode cX9_falseOnes 32 = .ok (.iconst 0, 1) := by decide +kernel
theorem dX9_falseOnes_33 : decode cX9_falseOnes 33 = .ok (.istore 5, 2) := by decide +kernel
theorem dX9_falseOnes_35 : decode cX9_falseOnes 35 = .ok (.iconst 0, 1) := by decide +kernel
theorem dX9_falseOnes_36 : decode cX9_falseOnes 36 = .ok (.istore 6, 2) := by decide +kernel
theorem dX9_falseOnes_38 : decode cX9_falseOnes 38 = .ok (.iload 6, 2) := by decide +kernel
theorem dX9_falseOnes_40 : decode cX9_falseOnes 40 = .ok (.aload_n 0, 1) := by decide +kernel
theorem dX9_falseOnes_41 : decode cX9_falseOnes 41 = .ok (.getfield 28, 3) := by decide +kernel
theorem dX9_falseOnes_44 : decode cX9_falseOnes 44 = .ok (.getfield 118, 3) := by decide +kernel
theorem dX9_falseOnes_47 : decode cX9_falseOnes 47 = .ok (.if_icmp .ge 70, 3) := by decide +kernel
theorem dX9_falseOnes_50 : decode cX9_falseOnes 50 = .ok (.iload 4, 2) := by decide +kernel
theorem dX9_falseOnes_52 : decode cX9_falseOnes 52 = .ok (.aload_n 3, 1) := by decide +kernel
theorem dX9_falseOnes_53 : decode cX9_falseOnes 53 = .ok (.getfield 191, 3) := by decide +kernel
theorem dX9_falseOnes_56 : decode cX9_falseOnes 56 = .ok (.iload 6, 2) := by decide +kernel
theorem dX9_falseOnes_58 : decode cX9_falseOnes 58 = .ok (.iaload, 1) := by decide +kernel
theorem dX9_falseOnes_59 : decode cX9_falseOnes 59 = .ok (.aload_n 0, 1) := by decide +kernel
theorem dX9_falseOnes_60 : decode cX9_falseOnes 60 = .ok (.getfield 28, 3) := by decide +kernel
theorem dX9_falseOnes_63 : decode cX9_falseOnes 63 = .ok (.getfield 185, 3) := by decide +kernel
theorem dX9_falseOnes_66 : decode cX9_falseOnes 66 = .ok (.iload 6, 2) := by decide +kernel
theorem dX9_falseOnes_68 : decode cX9_falseOnes 68 = .ok (.iaload, 1) := by decide +kernel
theorem dX9_falseOnes_69 : decode cX9_falseOnes 69 = .ok (.imul, 1) := by decide +kernel
theorem dX9_falseOnes_70 : decode cX9_falseOnes 70 = .ok (.iadd, 1) := by decide +kernel
theorem dX9_falseOnes_71 : decode cX9_falseOnes 71 = .ok (.istore 4, 2) := by decide +kernel
theorem dX9_falseOnes_73 : decode cX9_falseOnes 73 = .ok (.iload 5, 2) := by decide +kernel
theorem dX9_falseOnes_75 : decode cX9_falseOnes 75 = .ok (.aload_n 3, 1) := by decide +kernel
theorem dX9_falseOnes_76 : decode cX9_falseOnes 76 = .ok (.getfield 191, 3) := by decide +kernel
theorem dX9_falseOnes_79 : decode cX9_falseOnes 79 = .ok (.iload 6, 2) := by decide +kernel
theorem dX9_falseOnes_81 : decode cX9_falseOnes 81 = .ok (.iaload, 1) := by decide +kernel
theorem dX9_falseOnes_82 : decode cX9_falseOnes 82 = .ok (.iconst 0, 1) := by decide +kernel
theorem dX9_falseOnes_83 : decode cX9_falseOnes 83 = .ok (.aload_n 0, 1) := by decide +kernel
theorem dX9_falseOnes_84 : decode cX9_falseOnes 84 = .ok (.getfield 28, 3) := by decide +kernel
theorem dX9_falseOnes_87 : decode cX9_falseOnes 87 = .ok (.getfield 185, 3) := by decide +kernel
theorem dX9_falseOnes_90 : decode cX9_falseOnes 90 = .ok (.iload 6, 2) := by decide +kernel
theorem dX9_falseOnes_92 : decode cX9_falseOnes 92 = .ok (.iaload, 1) := by decide +kernel
theorem dX9_falseOnes_93 : decode cX9_falseOnes 93 = .ok (.aload_n 0, 1) := by decide +kernel
theorem dX9_falseOnes_94 : decode cX9_falseOnes 94 = .ok (.getfield 28, 3) := by decide +kernel
theorem dX9_falseOnes_97 : decode cX9_falseOnes 97 = .ok (.getfield 182, 3) := by decide +kernel
theorem dX9_falseOnes_100 : decode cX9_falseOnes 100 = .ok (.iload 6, 2) := by decide +kernel
theorem dX9_falseOnes_102 : decode cX9_falseOnes 102 = .ok (.iaload, 1) := by decide +kernel
theorem dX9_falseOnes_103 : decode cX9_falseOnes 103 = .ok (.isub, 1) := by decide +kernel
theorem dX9_falseOnes_104 : decode cX9_falseOnes 104 = .ok (.invokestatic 250, 3) := by decide +kernel
theorem dX9_falseOnes_107 : decode cX9_falseOnes 107 = .ok (.imul, 1) := by decide +kernel
theorem dX9_falseOnes_108 : decode cX9_falseOnes 108 = .ok (.iadd, 1) := by decide +kernel
theorem dX9_falseOnes_109 : decode cX9_falseOnes 109 = .ok (.istore 5, 2) := by decide +kernel
theorem dX9_falseOnes_111 : decode cX9_falseOnes 111 = .ok (.iinc 6 1, 3) := by decide +kernel
theorem dX9_falseOnes_114 : decode cX9_falseOnes 114 = .ok (.goto (-76), 3) := by decide +kernel
theorem dX9_falseOnes_117 : decode cX9_falseOnes 117 = .ok (.iload 5, 2) := by decide +kernel
theorem dX9_falseOnes_119 : decode cX9_falseOnes 119 = .ok (.iload 4, 2) := by decide +kernel
theorem dX9_falseOnes_121 : decode cX9_falseOnes 121 = .ok (.invokestatic 290, 3) := by decide +kernel
theorem dX9_falseOnes_124 : decode cX9_falseOnes 124 = .ok (.istore 6, 2) := by decide +kernel
theorem dX9_falseOnes_126 : decode cX9_falseOnes 126 = .ok (.iload 6, 2) := by decide +kernel
theorem dX9_falseOnes_128 : decode cX9_falseOnes 128 = .ok (.ifCond .ne 5, 3) := by decide +kernel
theorem dX9_falseOnes_131 : decode cX9_falseOnes 131 = .ok (.iload_n 2, 1) := by decide +kernel
theorem dX9_falseOnes_132 : decode cX9_falseOnes 132 = .ok (.ireturn, 1) := by decide +kernel
theorem dX9_falseOnes_133 : decode cX9_falseOnes 133 = .ok (.iload_n 2, 1) := by decide +kernel
theorem dX9_falseOnes_134 : decode cX9_falseOnes 134 = .ok (.ifCond .ne 8, 3) := by decide +kernel
theorem dX9_falseOnes_137 : decode cX9_falseOnes 137 = .ok (.iload 5, 2) := by decide +kernel
theorem dX9_falseOnes_139 : decode cX9_falseOnes 139 = .ok (.goto 5, 3) := by decide +kernel
theorem dX9_falseOnes_142 : decode cX9_falseOnes 142 = .ok (.iload 4, 2) := by decide +kernel
theorem dX9_falseOnes_144 : decode cX9_falseOnes 144 = .ok (.iload 6, 2) := by decide +kernel
theorem dX9_falseOnes_146 : decode cX9_falseOnes 146 = .ok (.idiv, 1) := by decide +kernel
theorem dX9_falseOnes_147 : decode cX9_falseOnes 147 = .ok (.ireturn, 1) := by decide +kernel
theorem dX9_habit_0 : decode cX9_habit 0 = .ok (.aload_n 0, 1) := by decide +kernel
theorem dX9_habit_1 : decode cX9_habit 1 = .ok (.iload_n 1, 1) := by decide +kernel
theorem dX9_habit_2 : decode cX9_habit 2 = .ok (.invokevirtual 121, 3) := by decide +kernel
theorem dX9_habit_5 : decode cX9_habit 5 = .ok (.ifCond .ne 5, 3) := by decide +kernel
theorem dX9_habit_8 : decode cX9_habit 8 = .ok (.iconst (-1), 1) := by decide +kernel
theorem dX9_habit_9 : decode cX9_habit 9 = .ok (.ireturn, 1) := by decide +kernel
theorem dX9_habit_10 : decode cX9_habit 10 = .ok (.aload_n 0, 1) := by decide +kernel
theorem dX9_habit_11 : decode cX9_habit 11 = .ok (.iload_n 1, 1) := by decide +kernel
theorem dX9_habit_12 : decode cX9_habit 12 = .ok (.invokevirtual 243, 3) := by decide +kernel
theorem dX9_habit_15 : decode cX9_habit 15 = .ok (.astore_n 2, 1) := by decide +kernel
theorem dX9_habit_16 : decode cX9_habit 16 = .ok (.iconst 0, 1) := by decide +kernel
theorem dX9_habit_17 : decode cX9_habit 17 = .ok (.istore_n 3, 1) := by decide +kernel
theorem dX9_habit_18 : decode cX9_habit 18 = .ok (.iload_n 3, 1) := by decide +kernel
theorem dX9_habit_19 : decode cX9_habit 19 = .ok (.bipush 99, 2) := by decide +kernel
theorem dX9_habit_21 : decode cX9_habit 21 = .ok (.if_icmp .ge 27, 3) := by decide +kernel
theorem dX9_habit_24 : decode cX9_habit 24 = .ok (.aload_n 2, 1) := by decide +kernel
theorem dX9_habit_25 : decode cX9_habit 25 = .ok (.getfield 141, 3) := by decide +kernel
theorem dX9_habit_28 : decode cX9_habit 28 = .ok (.aload_n 2, 1) := by decide +kernel
theorem dX9_habit_29 : decode cX9_habit 29 = .ok (.getfield 136, 3) := by decide +kernel
theorem dX9_habit_32 : decode cX9_habit 32 = .ok (.if_icmp .lt 5, 3) := by decide +kernel
theorem dX9_habit_35 : decode cX9_habit 35 = .ok (.iload_n 3, 1) := by decide +kernel
theorem dX9_habit_36 : decode cX9_habit 36 = .ok (.ireturn, 1) := by decide +kernel
theorem dX9_habit_37 : decode cX9_habit 37 = .ok (.aload_n 0, 1) := by decide +kernel
theorem dX9_habit_38 : decode cX9_habit 38 = .ok (.iconst 1, 1) := by decide +kernel
theorem dX9_habit_39 : decode cX9_habit 39 = .ok (.invokevirtual 247, 3) := by decide +kernel
theorem dX9_habit_42 : decode cX9_habit 42 = .ok (.iinc 3 1, 3) := by decide +kernel
theorem dX9_habit_45 : decode cX9_habit 45 = .ok (.goto (-27), 3) := by decide +kernel
theorem dX9_habit_48 : decode cX9_habit 48 = .ok (.aload_n 2, 1) := by decide +kernel
theorem dX9_habit_49 : decode cX9_habit 49 = .ok (.getfield 141, 3) := by decide +kernel
theorem dX9_habit_52 : decode cX9_habit 52 = .ok (.aload_n 2, 1) := by decide +kernel
theorem dX9_habit_53 : decode cX9_habit 53 = .ok (.getfield 136, 3) := by decide +kernel
theorem dX9_habit_56 : decode cX9_habit 56 = .ok (.if_icmp .lt 8, 3) := by decide +kernel
theorem dX9_habit_59 : decode cX9_habit 59 = .ok (.bipush 99, 2) := by decide +kernel
theorem dX9_habit_61 : decode cX9_habit 61 = .ok (.goto 5, 3) := by decide +kernel
theorem dX9_habit_64 : decode cX9_habit 64 = .ok (.bipush (-2), 2) := by decide +kernel
theorem dX9_habit_66 : decode cX9_habit 66 = .ok (.ireturn, 1) := by decide +kernel
theorem dX9_breaks_0 : decode cX9_breaks 0 = .ok (.aload_n 0, 1) := by decide +kernel
theorem dX9_breaks_1 : decode cX9_breaks 1 = .ok (.iload_n 1, 1) := by decide +kernel
theorem dX9_breaks_2 : decode cX9_breaks 2 = .ok (.invokevirtual 121, 3) := by decide +kernel
theorem dX9_breaks_5 : decode cX9_breaks 5 = .ok (.ifCond .eq 13, 3) := by decide +kernel
theorem dX9_breaks_8 : decode cX9_breaks 8 = .ok (.iload_n 2, 1) := by decide +kernel
theorem dX9_breaks_9 : decode cX9_breaks 9 = .ok (.iconst 1, 1) := by decide +kernel
theorem dX9_breaks_10 : decode cX9_breaks 10 = .ok (.bipush 60, 2) := by decide +kernel
theorem dX9_breaks_12 : decode cX9_breaks 12 = .ok (.invokestatic 194, 3) := by decide +kernel
theorem dX9_breaks_15 : decode cX9_breaks 15 = .ok (.ifCond .ne 5, 3) := by decide +kernel
theorem dX9_breaks_18 : decode cX9_breaks 18 = .ok (.iconst (-1), 1) := by decide +kernel
theorem dX9_breaks_19 : decode cX9_breaks 19 = .ok (.ireturn, 1) := by decide +kernel
theorem dX9_breaks_20 : decode cX9_breaks 20 = .ok (.aload_n 0, 1) := by decide +kernel
theorem dX9_breaks_21 : decode cX9_breaks 21 = .ok (.iload_n 1, 1) := by decide +kernel
theorem dX9_breaks_22 : decode cX9_breaks 22 = .ok (.invokevirtual 243, 3) := by decide +kernel
theorem dX9_breaks_25 : decode cX9_breaks 25 = .ok (.astore_n 3, 1) := by decide +kernel
theorem dX9_breaks_26 : decode cX9_breaks 26 = .ok (.aload_n 0, 1) := by decide +kernel
theorem dX9_breaks_27 : decode cX9_breaks 27 = .ok (.iload_n 2, 1) := by decide +kernel
theorem dX9_breaks_28 : decode cX9_breaks 28 = .ok (.invokevirtual 247, 3) := by decide +kernel
theorem dX9_breaks_31 : decode cX9_breaks 31 = .ok (.aload_n 3, 1) := by decide +kernel
theorem dX9_breaks_32 : decode cX9_breaks 32 = .ok (.getfield 156, 3) := by decide +kernel
theorem dX9_breaks_35 : decode cX9_breaks 35 = .ok (.istore 4, 2) := by decide +kernel
theorem dX9_breaks_37 : decode cX9_breaks 37 = .ok (.aload_n 0, 1) := by decide +kernel
theorem dX9_breaks_38 : decode cX9_breaks 38 = .ok (.iload_n 1, 1) := by decide +kernel
theorem dX9_breaks_39 : decode cX9_breaks 39 = .ok (.invokevirtual 243, 3) := by decide +kernel
theorem dX9_breaks_42 : decode cX9_breaks 42 = .ok (.pop, 1) := by decide +kernel
theorem dX9_breaks_43 : decode cX9_breaks 43 = .ok (.aload_n 3, 1) := by decide +kernel
theorem dX9_breaks_44 : decode cX9_breaks 44 = .ok (.iconst 0, 1) := by decide +kernel
theorem dX9_breaks_45 : decode cX9_breaks 45 = .ok (.putfield 167, 3) := by decide +kernel
theorem dX9_breaks_48 : decode cX9_breaks 48 = .ok (.aload_n 0, 1) := by decide +kernel
theorem dX9_breaks_49 : decode cX9_breaks 49 = .ok (.iconst 1, 1) := by decide +kernel
theorem dX9_breaks_50 : decode cX9_breaks 50 = .ok (.invokevirtual 247, 3) := by decide +kernel
theorem dX9_breaks_53 : decode cX9_breaks 53 = .ok (.aload_n 3, 1) := by decide +kernel
theorem dX9_breaks_54 : decode cX9_breaks 54 = .ok (.aload_n 0, 1) := by decide +kernel
theorem dX9_breaks_55 : decode cX9_breaks 55 = .ok (.getfield 38, 3) := by decide +kernel
theorem dX9_breaks_58 : decode cX9_breaks 58 = .ok (.getfield 132, 3) := by decide +kernel
theorem dX9_breaks_61 : decode cX9_breaks 61 = .ok (.iload_n 1, 1) := by decide +kernel
theorem dX9_breaks_62 : decode cX9_breaks 62 = .ok (.aaload, 1) := by decide +kernel
theorem dX9_breaks_63 : decode cX9_breaks 63 = .ok (.getfield 167, 3) := by decide +kernel
theorem dX9_breaks_66 : decode cX9_breaks 66 = .ok (.putfield 167, 3) := by decide +kernel
theorem dX9_breaks_69 : decode cX9_breaks 69 = .ok (.aload_n 0, 1) := by decide +kernel
theorem dX9_breaks_70 : decode cX9_breaks 70 = .ok (.iload_n 2, 1) := by decide +kernel
theorem dX9_breaks_71 : decode cX9_breaks 71 = .ok (.iconst 1, 1) := by decide +kernel
theorem dX9_breaks_72 : decode cX9_breaks 72 = .ok (.isub, 1) := by decide +kernel
theorem dX9_breaks_73 : decode cX9_breaks 73 = .ok (.invokevirtual 247, 3) := by decide +kernel
theorem dX9_breaks_76 : decode cX9_breaks 76 = .ok (.iconst 0, 1) := by decide +kernel
theorem dX9_breaks_77 : decode cX9_breaks 77 = .ok (.iload 4, 2) := by decide +kernel
theorem dX9_breaks_79 : decode cX9_breaks 79 = .ok (.aload_n 3, 1) := by decide +kernel
theorem dX9_breaks_80 : decode cX9_breaks 80 = .ok (.getfield 156, 3) := by decide +kernel
theorem dX9_breaks_83 : decode cX9_breaks 83 = .ok (.isub, 1) := by decide +kernel
theorem dX9_breaks_84 : decode cX9_breaks 84 = .ok (.invokestatic 250, 3) := by decide +kernel
theorem dX9_breaks_87 : decode cX9_breaks 87 = .ok (.ireturn, 1) := by decide +kernel
theorem dX9_note_0 : decode cX9_note 0 = .ok (.iload_n 1, 1) := by decide +kernel
theorem dX9_note_1 : decode cX9_note 1 = .ok (.iconst 1, 1) := by decide +kernel
theorem dX9_note_2 : decode cX9_note 2 = .ok (.bipush 40, 2) := by decide +kernel
theorem dX9_note_4 : decode cX9_note 4 = .ok (.invokestatic 194, 3) := by decide +kernel
theorem dX9_note_7 : decode cX9_note 7 = .ok (.ifCond .eq 22, 3) := by decide +kernel
theorem dX9_note_10 : decode cX9_note 10 = .ok (.aload_n 0, 1) := by decide +kernel
theorem dX9_note_11 : decode cX9_note 11 = .ok (.iload_n 2, 1) := by decide +kernel
theorem dX9_note_12 : decode cX9_note 12 = .ok (.invokevirtual 121, 3) := by decide +kernel
theorem dX9_note_15 : decode cX9_note 15 = .ok (.ifCond .eq 14, 3) := by decide +kernel
theorem dX9_note_18 : decode cX9_note 18 = .ok (.iload_n 3, 1) := by decide +kernel
theorem dX9_note_19 : decode cX9_note 19 = .ok (.iconst 0, 1) := by decide +kernel
theorem dX9_note_20 : decode cX9_note 20 = .ok (.ldc_w 293, 3) := by decide +kernel
theorem dX9_note_23 : decode cX9_note 23 = .ok (.invokestatic 194, 3) := by decide +kernel
theorem dX9_note_26 : decode cX9_note 26 = .ok (.ifCond .ne 5, 3) := by decide +kernel
theorem dX9_note_29 : decode cX9_note 29 = .ok (.iconst (-1), 1) := by decide +kernel
theorem dX9_note_30 : decode cX9_note 30 = .ok (.ireturn, 1) := by decide +kernel
theorem dX9_note_31 : decode cX9_note 31 = .ok (.aload_n 0, 1) := by decide +kernel
theorem dX9_note_32 : decode cX9_note 32 = .ok (.getfield 51, 3) := by decide +kernel
theorem dX9_note_35 : decode cX9_note 35 = .ok (.iload_n 1, 1) := by decide +kernel
theorem dX9_note_36 : decode cX9_note 36 = .ok (.iload_n 2, 1) := by decide +kernel
theorem dX9_note_37 : decode cX9_note 37 = .ok (.iload_n 3, 1) := by decide +kernel
theorem dX9_note_38 : decode cX9_note 38 = .ok (.iload 4, 2) := by decide +kernel
theorem dX9_note_40 : decode cX9_note 40 = .ok (.invokevirtual 294, 3) := by decide +kernel
theorem dX9_note_43 : decode cX9_note 43 = .ok (.ireturn, 1) := by decide +kernel
theorem dX9_out_0 : decode cX9_out 0 = .ok (.iload_n 1, 1) := by decide +kernel
theorem dX9_out_1 : decode cX9_out 1 = .ok (.iconst 0, 1) := by decide +kernel
theorem dX9_out_2 : decode cX9_out 2 = .ok (.aload_n 0, 1) := by decide +kernel
theorem dX9_out_3 : decode cX9_out 3 = .ok (.getfield 51, 3) := by decide +kernel
theorem dX9_out_6 : decode cX9_out 6 = .ok (.getfield 297, 3) := by decide +kernel
theorem dX9_out_9 : decode cX9_out 9 = .ok (.iconst 1, 1) := by decide +kernel
theorem dX9_out_10 : decode cX9_out 10 = .ok (.isub, 1) := by decide +kernel
theorem dX9_out_11 : decode cX9_out 11 = .ok (.invokestatic 194, 3) := by decide +kernel
theorem dX9_out_14 : decode cX9_out 14 = .ok (.ifCond .eq 14, 3) := by decide +kernel
theorem dX9_out_17 : decode cX9_out 17 = .ok (.aload_n 0, 1) := by decide +kernel
theorem dX9_out_18 : decode cX9_out 18 = .ok (.getfield 51, 3) := by decide +kernel
theorem dX9_out_21 : decode cX9_out 21 = .ok (.iload_n 1, 1) := by decide +kernel
theorem dX9_out_22 : decode cX9_out 22 = .ok (.invokevirtual 298, 3) := by decide +kernel
theorem dX9_out_25 : decode cX9_out 25 = .ok (.goto 4, 3) := by decide +kernel
theorem dX9_out_28 : decode cX9_out 28 = .ok (.iconst (-1), 1) := by decide +kernel
theorem dX9_out_29 : decode cX9_out 29 = .ok (.ireturn, 1) := by decide +kernel
theorem dX9_known_0 : decode cX9_known 0 = .ok (.iload_n 1, 1) := by decide +kernel
theorem dX9_known_1 : decode cX9_known 1 = .ok (.iconst (-1), 1) := by decide +kernel
theorem dX9_known_2 : decode cX9_known 2 = .ok (.aload_n 0, 1) := by decide +kernel
theorem dX9_known_3 : decode cX9_known 3 = .ok (.getfield 51, 3) := by decide +kernel
theorem dX9_known_6 : decode cX9_known 6 = .ok (.getfield 297, 3) := by decide +kernel
theorem dX9_known_9 : decode cX9_known 9 = .ok (.invokestatic 194, 3) := by decide +kernel
theorem dX9_known_12 : decode cX9_known 12 = .ok (.ifCond .ne 5, 3) := by decide +kernel
theorem dX9_known_15 : decode cX9_known 15 = .ok (.iconst 0, 1) := by decide +kernel
theorem dX9_known_16 : decode cX9_known 16 = .ok (.ireturn, 1) := by decide +kernel
theorem dX9_known_17 : decode cX9_known 17 = .ok (.aload_n 0, 1) := by decide +kernel
theorem dX9_known_18 : decode cX9_known 18 = .ok (.getfield 51, 3) := by decide +kernel
theorem dX9_known_21 : decode cX9_known 21 = .ok (.iload_n 1, 1) := by decide +kernel
theorem dX9_known_22 : decode cX9_known 22 = .ok (.putfield 301, 3) := by decide +kernel
theorem dX9_known_25 : decode cX9_known 25 = .ok (.iconst 1, 1) := by decide +kernel
theorem dX9_known_26 : decode cX9_known 26 = .ok (.ireturn, 1) := by decide +kernel
theorem dX9_fits_0 : decode cX9_fits 0 = .ok (.aload_n 0, 1) := by decide +kernel
theorem dX9_fits_1 : decode cX9_fits 1 = .ok (.iload_n 1, 1) := by decide +kernel
theorem dX9_fits_2 : decode cX9_fits 2 = .ok (.invokevirtual 121, 3) := by decide +kernel
theorem dX9_fits_5 : decode cX9_fits 5 = .ok (.ifCond .eq 11, 3) := by decide +kernel
theorem dX9_fits_8 : decode cX9_fits 8 = .ok (.aload_n 0, 1) := by decide +kernel
theorem dX9_fits_9 : decode cX9_fits 9 = .ok (.iload_n 2, 1) := by decide +kernel
theorem dX9_fits_10 : decode cX9_fits 10 = .ok (.invokevirtual 179, 3) := by decide +kernel
theorem dX9_fits_13 : decode cX9_fits 13 = .ok (.ifCond .ne 5, 3) := by decide +kernel
theorem dX9_fits_16 : decode cX9_fits 16 = .ok (.iconst (-1), 1) := by decide +kernel
theorem dX9_fits_17 : decode cX9_fits 17 = .ok (.ireturn, 1) := by decide +kernel
theorem dX9_fits_18 : decode cX9_fits 18 = .ok (.aload_n 0, 1) := by decide +kernel
theorem dX9_fits_19 : decode cX9_fits 19 = .ok (.getfield 51, 3) := by decide +kernel
theorem dX9_fits_22 : decode cX9_fits 22 = .ok (.invokevirtual 304, 3) := by decide +kernel
theorem dX9_fits_25 : decode cX9_fits 25 = .ok (.iconst 0, 1) := by decide +kernel
theorem dX9_fits_26 : decode cX9_fits 26 = .ok (.istore_n 3, 1) := by decide +kernel
theorem dX9_fits_27 : decode cX9_fits 27 = .ok (.iconst 0, 1) := by decide +kernel
theorem dX9_fits_28 : decode cX9_fits 28 = .ok (.istore 4, 2) := by decide +kernel
theorem dX9_fits_30 : decode cX9_fits 30 = .ok (.iload 4, 2) := by decide +kernel
theorem dX9_fits_32 : decode cX9_fits 32 = .ok (.bipush 9, 2) := by decide +kernel
theorem dX9_fits_34 : decode cX9_fits 34 = .ok (.if_icmp .gt 27, 3) := by decide +kernel
theorem dX9_fits_37 : decode cX9_fits 37 = .ok (.aload_n 0, 1) := by decide +kernel
theorem dX9_fits_38 : decode cX9_fits 38 = .ok (.iload_n 1, 1) := by decide +kernel
theorem dX9_fits_39 : decode cX9_fits 39 = .ok (.iload_n 2, 1) := by decide +kernel
theorem dX9_fits_40 : decode cX9_fits 40 = .ok (.iload 4, 2) := by decide +kernel
theorem dX9_fits_42 : decode cX9_fits 42 = .ok (.invokevirtual 307, 3) := by decide +kernel
theorem dX9_fits_45 : decode cX9_fits 45 = .ok (.ifCond .eq 10, 3) := by decide +kernel
theorem dX9_fits_48 : decode cX9_fits 48 = .ok (.iload_n 3, 1) := by decide +kernel
theorem dX9_fits_49 : decode cX9_fits 49 = .ok (.iconst 1, 1) := by decide +kernel
theorem dX9_fits_50 : decode cX9_fits 50 = .ok (.iload 4, 2) := by decide +kernel
theorem dX9_fits_52 : decode cX9_fits 52 = .ok (.ishl, 1) := by decide +kernel
theorem dX9_fits_53 : decode cX9_fits 53 = .ok (.ior, 1) := by decide +kernel
theorem dX9_fits_54 : decode cX9_fits 54 = .ok (.istore_n 3, 1) := by decide +kernel
theorem dX9_fits_55 : decode cX9_fits 55 = .ok (.iinc 4 1, 3) := by decide +kernel
theorem dX9_fits_58 : decode cX9_fits 58 = .ok (.goto (-28), 3) := by decide +kernel
theorem dX9_fits_61 : decode cX9_fits 61 = .ok (.iload_n 3, 1) := by decide +kernel
theorem dX9_fits_62 : decode cX9_fits 62 = .ok (.ireturn, 1) := by decide +kernel
theorem dX9_chance_0 : decode cX9_chance 0 = .ok (.iload_n 1, 1) := by decide +kernel
theorem dX9_chance_1 : decode cX9_chance 1 = .ok (.ifCond .lt 32, 3) := by decide +kernel
theorem dX9_chance_4 : decode cX9_chance 4 = .ok (.iload_n 2, 1) := by decide +kernel
theorem dX9_chance_5 : decode cX9_chance 5 = .ok (.iconst 1, 1) := by decide +kernel
theorem dX9_chance_6 : decode cX9_chance 6 = .ok (.bipush 60, 2) := by decide +kernel
theorem dX9_chance_8 : decode cX9_chance 8 = .ok (.invokestatic 194, 3) := by decide +kernel
theorem dX9_chance_11 : decode cX9_chance 11 = .ok (.ifCond .eq 22, 3) := by decide +kernel
theorem dX9_chance_14 : decode cX9_chance 14 = .ok (.aload_n 0, 1) := by decide +kernel
theorem dX9_chance_15 : decode cX9_chance 15 = .ok (.iload_n 3, 1) := by decide +kernel
theorem dX9_chance_16 : decode cX9_chance 16 = .ok (.invokevirtual 121, 3) := by decide +kernel
theorem dX9_chance_19 : decode cX9_chance 19 = .ok (.ifCond .eq 14, 3) := by decide +kernel
theorem dX9_chance_22 : decode cX9_chance 22 = .ok (.iload 4, 2) := by decide +kernel
theorem dX9_chance_24 : decode cX9_chance 24 = .ok (.iconst 0, 1) := by decide +kernel
theorem dX9_chance_25 : decode cX9_chance 25 = .ok (.bipush 99, 2) := by decide +kernel
theorem dX9_chance_27 : decode cX9_chance 27 = .ok (.invokestatic 194, 3) := by decide +kernel
theorem dX9_chance_30 : decode cX9_chance 30 = .ok (.ifCond .ne 5, 3) := by decide +kernel
theorem dX9_chance_33 : decode cX9_chance 33 = .ok (.iconst (-1), 1) := by decide +kernel
theorem dX9_chance_34 : decode cX9_chance 34 = .ok (.ireturn, 1) := by decide +kernel
theorem dX9_chance_35 : decode cX9_chance 35 = .ok (.iload_n 1, 1) := by decide +kernel
theorem dX9_chance_36 : decode cX9_chance 36 = .ok (.i2l, 1) := by decide +kernel
theorem dX9_chance_37 : decode cX9_chance 37 = .ok (.lstore 5, 2) := by decide +kernel
theorem dX9_chance_39 : decode cX9_chance 39 = .ok (.iconst 0, 1) := by decide +kernel
theorem dX9_chance_40 : decode cX9_chance 40 = .ok (.istore 7, 2) := by decide +kernel
theorem dX9_chance_42 : decode cX9_chance 42 = .ok (.iconst 0, 1) := by decide +kernel
theorem dX9_chance_43 : decode cX9_chance 43 = .ok (.istore 8, 2) := by decide +kernel
theorem dX9_chance_45 : decode cX9_chance 45 = .ok (.iload 8, 2) := by decide +kernel
theorem dX9_chance_47 : decode cX9_chance 47 = .ok (.bipush 10, 2) := by decide +kernel
theorem dX9_chance_49 : decode cX9_chance 49 = .ok (.if_icmp .ge 87, 3) := by decide +kernel
theorem dX9_chance_52 : decode cX9_chance 52 = .ok (.aload_n 0, 1) := by decide +kernel
theorem dX9_chance_53 : decode cX9_chance 53 = .ok (.iload_n 3, 1) := by decide +kernel
theorem dX9_chance_54 : decode cX9_chance 54 = .ok (.invokevirtual 243, 3) := by decide +kernel
theorem dX9_chance_57 : decode cX9_chance 57 = .ok (.astore 9, 2) := by decide +kernel
theorem dX9_chance_59 : decode cX9_chance 59 = .ok (.aload_n 0, 1) := by decide +kernel
theorem dX9_chance_60 : decode cX9_chance 60 = .ok (.getfield 45, 3) := by decide +kernel
theorem dX9_chance_63 : decode cX9_chance 63 = .ok (.lload 5, 2) := by decide +kernel
theorem dX9_chance_65 : decode cX9_chance 65 = .ok (.putfield 310, 3) := by decide +kernel
theorem dX9_chance_68 : decode cX9_chance 68 = .ok (.iconst 0, 1) := by decide +kernel
theorem dX9_chance_69 : decode cX9_chance 69 = .ok (.istore 10, 2) := by decide +kernel
theorem dX9_chance_71 : decode cX9_chance 71 = .ok (.iload 10, 2) := by decide +kernel
theorem dX9_chance_73 : decode cX9_chance 73 = .ok (.iload_n 2, 1) := by decide +kernel
theorem dX9_chance_74 : decode cX9_chance 74 = .ok (.if_icmp .ge 34, 3) := by decide +kernel
theorem dX9_chance_77 : decode cX9_chance 77 = .ok (.aload_n 0, 1) := by decide +kernel
theorem dX9_chance_78 : decode cX9_chance 78 = .ok (.getfield 45, 3) := by decide +kernel
theorem dX9_chance_81 : decode cX9_chance 81 = .ok (.aload_n 0, 1) := by decide +kernel
theorem dX9_chance_82 : decode cX9_chance 82 = .ok (.getfield 28, 3) := by decide +kernel
theorem dX9_chance_85 : decode cX9_chance 85 = .ok (.aload_n 0, 1) := by decide +kernel
theorem dX9_chance_86 : decode cX9_chance 86 = .ok (.getfield 45, 3) := by decide +kernel
theorem dX9_chance_89 : decode cX9_chance 89 = .ok (.aload_n 0, 1) := by decide +kernel
theorem dX9_chance_90 : decode cX9_chance 90 = .ok (.getfield 28, 3) := by decide +kernel
theorem dX9_chance_93 : decode cX9_chance 93 = .ok (.getfield 233, 3) := by decide +kernel
theorem dX9_chance_96 : decode cX9_chance 96 = .ok (.invokevirtual 236, 3) := by decide +kernel
theorem dX9_chance_99 : decode cX9_chance 99 = .ok (.invokevirtual 239, 3) := by decide +kernel
theorem dX9_chance_102 : decode cX9_chance 102 = .ok (.iinc 10 1, 3) := by decide +kernel
theorem dX9_chance_105 : decode cX9_chance 105 = .ok (.goto (-34), 3) := by decide +kernel
theorem dX9_chance_108 : decode cX9_chance 108 = .ok (.aload_n 0, 1) := by decide +kernel
theorem dX9_chance_109 : decode cX9_chance 109 = .ok (.getfield 45, 3) := by decide +kernel
theorem dX9_chance_112 : decode cX9_chance 112 = .ok (.getfield 310, 3) := by decide +kernel
theorem dX9_chance_115 : decode cX9_chance 115 = .ok (.lstore 5, 2) := by decide +kernel
theorem dX9_chance_117 : decode cX9_chance 117 = .ok (.aload 9, 2) := by decide +kernel
theorem dX9_chance_119 : decode cX9_chance 119 = .ok (.getfield 147, 3) := by decide +kernel
theorem dX9_chance_122 : decode cX9_chance 122 = .ok (.iload 4, 2) := by decide +kernel
theorem dX9_chance_124 : decode cX9_chance 124 = .ok (.if_icmp .lt 6, 3) := by decide +kernel
theorem dX9_chance_127 : decode cX9_chance 127 = .ok (.iinc 7 1, 3) := by decide +kernel
theorem dX9_chance_130 : decode cX9_chance 130 = .ok (.iinc 8 1, 3) := by decide +kernel
theorem dX9_chance_133 : decode cX9_chance 133 = .ok (.goto (-88), 3) := by decide +kernel
theorem dX9_chance_136 : decode cX9_chance 136 = .ok (.iload 7, 2) := by decide +kernel
theorem dX9_chance_138 : decode cX9_chance 138 = .ok (.ireturn, 1) := by decide +kernel
theorem dX9_tried_0 : decode cX9_tried 0 = .ok (.iload_n 1, 1) := by decide +kernel
theorem dX9_tried_1 : decode cX9_tried 1 = .ok (.iconst 0, 1) := by decide +kernel
theorem dX9_tried_2 : decode cX9_tried 2 = .ok (.iconst 5, 1) := by decide +kernel
theorem dX9_tried_3 : decode cX9_tried 3 = .ok (.invokestatic 194, 3) := by decide +kernel
theorem dX9_tried_6 : decode cX9_tried 6 = .ok (.ifCond .eq 33, 3) := by decide +kernel
theorem dX9_tried_9 : decode cX9_tried 9 = .ok (.iload_n 3, 1) := by decide +kernel
theorem dX9_tried_10 : decode cX9_tried 10 = .ok (.iconst 0, 1) := by decide +kernel
theorem dX9_tried_11 : decode cX9_tried 11 = .ok (.bipush 60, 2) := by decide +kernel
theorem dX9_tried_13 : decode cX9_tried 13 = .ok (.invokestatic 194, 3) := by decide +kernel
theorem dX9_tried_16 : decode cX9_tried 16 = .ok (.ifCond .eq 23, 3) := by decide +kernel
theorem dX9_tried_19 : decode cX9_tried 19 = .ok (.iload_n 1, 1) := by decide +kernel
theorem dX9_tried_20 : decode cX9_tried 20 = .ok (.iconst 2, 1) := by decide +kernel
theorem dX9_tried_21 : decode cX9_tried 21 = .ok (.if_icmp .ne 14, 3) := by decide +kernel
theorem dX9_tried_24 : decode cX9_tried 24 = .ok (.aload_n 0, 1) := by decide +kernel
theorem dX9_tried_25 : decode cX9_tried 25 = .ok (.iload_n 2, 1) := by decide +kernel
theorem dX9_tried_26 : decode cX9_tried 26 = .ok (.invokevirtual 121, 3) := by decide +kernel
theorem dX9_tried_29 : decode cX9_tried 29 = .ok (.ifCond .eq 10, 3) := by decide +kernel
theorem dX9_tried_32 : decode cX9_tried 32 = .ok (.goto 9, 3) := by decide +kernel
theorem dX9_tried_35 : decode cX9_tried 35 = .ok (.iload_n 2, 1) := by decide +kernel
theorem dX9_tried_36 : decode cX9_tried 36 = .ok (.ifCond .eq 5, 3) := by decide +kernel
theorem dX9_tried_39 : decode cX9_tried 39 = .ok (.iconst (-1), 1) := by decide +kernel
theorem dX9_tried_40 : decode cX9_tried 40 = .ok (.ireturn, 1) := by decide +kernel
theorem dX9_tried_41 : decode cX9_tried 41 = .ok (.aload_n 0, 1) := by decide +kernel
theorem dX9_tried_42 : decode cX9_tried 42 = .ok (.invokevirtual 268, 3) := by decide +kernel
theorem dX9_tried_45 : decode cX9_tried 45 = .ok (.aload_n 0, 1) := by decide +kernel
theorem dX9_tried_46 : decode cX9_tried 46 = .ok (.invokevirtual 313, 3) := by decide +kernel
theorem dX9_tried_49 : decode cX9_tried 49 = .ok (.ifCond .eq 12, 3) := by decide +kernel
theorem dX9_tried_52 : decode cX9_tried 52 = .ok (.iload_n 1, 1) := by decide +kernel
theorem dX9_tried_53 : decode cX9_tried 53 = .ok (.iconst 1, 1) := by decide +kernel
theorem dX9_tried_54 : decode cX9_tried 54 = .ok (.if_icmp .eq 7, 3) := by decide +kernel
theorem dX9_tried_57 : decode cX9_tried 57 = .ok (.iconst 1, 1) := by decide +kernel
theorem dX9_tried_58 : decode cX9_tried 58 = .ok (.goto 4, 3) := by decide +kernel
theorem dX9_tried_61 : decode cX9_tried 61 = .ok (.iconst 0, 1) := by decide +kernel
theorem dX9_tried_62 : decode cX9_tried 62 = .ok (.istore 4, 2) := by decide +kernel
theorem dX9_tried_64 : decode cX9_tried 64 = .ok (.iload_n 1, 1) := by decide +kernel
theorem dX9_tried_65 : decode cX9_tried 65 = .ok (.iconst 2, 1) := by decide +kernel
theorem dX9_tried_66 : decode cX9_tried 66 = .ok (.if_icmp .ne 11, 3) := by decide +kernel
theorem dX9_tried_69 : decode cX9_tried 69 = .ok (.aload_n 0, 1) := by decide +kernel
theorem dX9_tried_70 : decode cX9_tried 70 = .ok (.getfield 45, 3) := by decide +kernel
theorem dX9_tried_73 : decode cX9_tried 73 = .ok (.iload_n 2, 1) := by decide +kernel
theorem dX9_tried_74 : decode cX9_tried 74 = .ok (.putfield 316, 3) := by decide +kernel
theorem dX9_tried_77 : decode cX9_tried 77 = .ok (.aload_n 0, 1) := by decide +kernel
theorem dX9_tried_78 : decode cX9_tried 78 = .ok (.getfield 45, 3) := by decide +kernel
theorem dX9_tried_81 : decode cX9_tried 81 = .ok (.iload_n 1, 1) := by decide +kernel
theorem dX9_tried_82 : decode cX9_tried 82 = .ok (.iconst 5, 1) := by decide +kernel
theorem dX9_tried_83 : decode cX9_tried 83 = .ok (.if_icmp .ne 7, 3) := by decide +kernel
theorem dX9_tried_86 : decode cX9_tried 86 = .ok (.iconst 1, 1) := by decide +kernel
theorem dX9_tried_87 : decode cX9_tried 87 = .ok (.goto 4, 3) := by decide +kernel
theorem dX9_tried_90 : decode cX9_tried 90 = .ok (.iconst 0, 1) := by decide +kernel
theorem dX9_tried_91 : decode cX9_tried 91 = .ok (.putfield 319, 3) := by decide +kernel
theorem dX9_tried_94 : decode cX9_tried 94 = .ok (.iconst 0, 1) := by decide +kernel
theorem dX9_tried_95 : decode cX9_tried 95 = .ok (.istore 5, 2) := by decide +kernel
theorem dX9_tried_97 : decode cX9_tried 97 = .ok (.iload 5, 2) := by decide +kernel
theorem dX9_tried_99 : decode cX9_tried 99 = .ok (.aload_n 0, 1) := by decide +kernel
theorem dX9_tried_100 : decode cX9_tried 100 = .ok (.getfield 28, 3) := by decide +kernel
theorem dX9_tried_103 : decode cX9_tried 103 = .ok (.getfield 108, 3) := by decide +kernel
theorem dX9_tried_106 : decode cX9_tried 106 = .ok (.if_icmp .ge 58, 3) := by decide +kernel
theorem dX9_tried_109 : decode cX9_tried 109 = .ok (.aload_n 0, 1) := by decide +kernel
theorem dX9_tried_110 : decode cX9_tried 110 = .ok (.getfield 45, 3) := by decide +kernel
theorem dX9_tried_113 : decode cX9_tried 113 = .ok (.getfield 132, 3) := by decide +kernel
theorem dX9_tried_116 : decode cX9_tried 116 = .ok (.iload 5, 2) := by decide +kernel
theorem dX9_tried_118 : decode cX9_tried 118 = .ok (.aaload, 1) := by decide +kernel
theorem dX9_tried_119 : decode cX9_tried 119 = .ok (.astore 6, 2) := by decide +kernel
theorem dX9_tried_121 : decode cX9_tried 121 = .ok (.aload 6, 2) := by decide +kernel
theorem dX9_tried_123 : decode cX9_tried 123 = .ok (.aload 6, 2) := by decide +kernel
theorem dX9_tried_125 : decode cX9_tried 125 = .ok (.getfield 167, 3) := by decide +kernel
theorem dX9_tried_128 : decode cX9_tried 128 = .ok (.ifCond .ne 8, 3) := by decide +kernel
theorem dX9_tried_131 : decode cX9_tried 131 = .ok (.iload_n 1, 1) := by decide +kernel
theorem dX9_tried_132 : decode cX9_tried 132 = .ok (.iconst 3, 1) := by decide +kernel
theorem dX9_tried_133 : decode cX9_tried 133 = .ok (.if_icmp .ne 7, 3) := by decide +kernel
theorem dX9_tried_136 : decode cX9_tried 136 = .ok (.iconst 1, 1) := by decide +kernel
theorem dX9_tried_137 : decode cX9_tried 137 = .ok (.goto 4, 3) := by decide +kernel
theorem dX9_tried_140 : decode cX9_tried 140 = .ok (.iconst 0, 1) := by decide +kernel
theorem dX9_tried_141 : decode cX9_tried 141 = .ok (.putfield 167, 3) := by decide +kernel
theorem dX9_tried_144 : decode cX9_tried 144 = .ok (.iload_n 1, 1) := by decide +kernel
theorem dX9_tried_145 : decode cX9_tried 145 = .ok (.iconst 4, 1) := by decide +kernel
theorem dX9_tried_146 : decode cX9_tried 146 = .ok (.if_icmp .ne 12, 3) := by decide +kernel
theorem dX9_tried_149 : decode cX9_tried 149 = .ok (.aload 6, 2) := by decide +kernel
theorem dX9_tried_151 : decode cX9_tried 151 = .ok (.getfield 191, 3) := by decide +kernel
theorem dX9_tried_154 : decode cX9_tried 154 = .ok (.iconst 0, 1) := by decide +kernel
theorem dX9_tried_155 : decode cX9_tried 155 = .ok (.invokestatic 322, 3) := by decide +kernel
theorem dX9_tried_158 : decode cX9_tried 158 = .ok (.iinc 5 1, 3) := by decide +kernel
theorem dX9_tried_161 : decode cX9_tried 161 = .ok (.goto (-64), 3) := by decide +kernel
theorem dX9_tried_164 : decode cX9_tried 164 = .ok (.iconst 0, 1) := by decide +kernel
theorem dX9_tried_165 : decode cX9_tried 165 = .ok (.istore 5, 2) := by decide +kernel
theorem dX9_tried_167 : decode cX9_tried 167 = .ok (.iload 5, 2) := by decide +kernel
theorem dX9_tried_169 : decode cX9_tried 169 = .ok (.iload_n 3, 1) := by decide +kernel
theorem dX9_tried_170 : decode cX9_tried 170 = .ok (.if_icmp .ge 22, 3) := by decide +kernel
theorem dX9_tried_173 : decode cX9_tried 173 = .ok (.aload_n 0, 1) := by decide +kernel
theorem dX9_tried_174 : decode cX9_tried 174 = .ok (.getfield 45, 3) := by decide +kernel
theorem dX9_tried_177 : decode cX9_tried 177 = .ok (.aload_n 0, 1) := by decide +kernel
theorem dX9_tried_178 : decode cX9_tried 178 = .ok (.getfield 28, 3) := by decide +kernel
theorem dX9_tried_181 : decode cX9_tried 181 = .ok (.iload 4, 2) := by decide +kernel
theorem dX9_tried_183 : decode cX9_tried 183 = .ok (.invokevirtual 239, 3) := by decide +kernel
theorem dX9_tried_186 : decode cX9_tried 186 = .ok (.iinc 5 1, 3) := by decide +kernel
theorem dX9_tried_189 : decode cX9_tried 189 = .ok (.goto (-22), 3) := by decide +kernel
theorem dX9_tried_192 : decode cX9_tried 192 = .ok (.aload_n 0, 1) := by decide +kernel
theorem dX9_tried_193 : decode cX9_tried 193 = .ok (.getfield 45, 3) := by decide +kernel
theorem dX9_tried_196 : decode cX9_tried 196 = .ok (.iconst 0, 1) := by decide +kernel
theorem dX9_tried_197 : decode cX9_tried 197 = .ok (.aload_n 0, 1) := by decide +kernel
theorem dX9_tried_198 : decode cX9_tried 198 = .ok (.getfield 28, 3) := by decide +kernel
theorem dX9_tried_201 : decode cX9_tried 201 = .ok (.getfield 108, 3) := by decide +kernel
theorem dX9_tried_204 : decode cX9_tried 204 = .ok (.invokevirtual 328, 3) := by decide +kernel
theorem dX9_tried_207 : decode cX9_tried 207 = .ok (.aload_n 0, 1) := by decide +kernel
theorem dX9_tried_208 : decode cX9_tried 208 = .ok (.getfield 38, 3) := by decide +kernel
theorem dX9_tried_211 : decode cX9_tried 211 = .ok (.iconst 0, 1) := by decide +kernel
theorem dX9_tried_212 : decode cX9_tried 212 = .ok (.aload_n 0, 1) := by decide +kernel
theorem dX9_tried_213 : decode cX9_tried 213 = .ok (.getfield 28, 3) := by decide +kernel
