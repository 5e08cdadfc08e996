theorem dX0_init_0 : decode cX0_init 0 = .ok (.aload_n 0, 1) := by decide +kernel
theorem dX0_init_1 : decode cX0_init 1 = .ok (.invokespecial 3, 3) := by decide +kernel
theorem dX0_init_4 : decode cX0_init 4 = .ok (.aload_n 0, 1) := by decide +kernel
theorem dX0_init_5 : decode cX0_init 5 = .ok (.bipush 20, 2) := by decide +kernel
theorem dX0_init_7 : decode cX0_init 7 = .ok (.newarray .int, 2) := by decide +kernel
theorem dX0_init_9 : decode cX0_init 9 = .ok (.putfield 9, 3) := by decide +kernel
theorem dX0_init_12 : decode cX0_init 12 = .ok (.aload_n 0, 1) := by decide +kernel
theorem dX0_init_13 : decode cX0_init 13 = .ok (.bipush 20, 2) := by decide +kernel
theorem dX0_init_15 : decode cX0_init 15 = .ok (.newarray .int, 2) := by decide +kernel
theorem dX0_init_17 : decode cX0_init 17 = .ok (.putfield 15, 3) := by decide +kernel
theorem dX0_init_20 : decode cX0_init 20 = .ok (.aload_n 0, 1) := by decide +kernel
theorem dX0_init_21 : decode cX0_init 21 = .ok (.bipush 20, 2) := by decide +kernel
theorem dX0_init_23 : decode cX0_init 23 = .ok (.newarray .int, 2) := by decide +kernel
theorem dX0_init_25 : decode cX0_init 25 = .ok (.putfield 18, 3) := by decide +kernel
theorem dX0_init_28 : decode cX0_init 28 = .ok (.aload_n 0, 1) := by decide +kernel
theorem dX0_init_29 : decode cX0_init 29 = .ok (.bipush 20, 2) := by decide +kernel
theorem dX0_init_31 : decode cX0_init 31 = .ok (.newarray .int, 2) := by decide +kernel
theorem dX0_init_33 : decode cX0_init 33 = .ok (.putfield 21, 3) := by decide +kernel
theorem dX0_init_36 : decode cX0_init 36 = .ok (.return_, 1) := by decide +kernel
theorem dX0_add_0 : decode cX0_add 0 = .ok (.aload_n 0, 1) := by decide +kernel
theorem dX0_add_1 : decode cX0_add 1 = .ok (.getfield 24, 3) := by decide +kernel
theorem dX0_add_4 : decode cX0_add 4 = .ok (.bipush 20, 2) := by decide +kernel
theorem dX0_add_6 : decode cX0_add 6 = .ok (.if_icmp .lt 7, 3) := by decide +kernel
theorem dX0_add_9 : decode cX0_add 9 = .ok (.aload_n 0, 1) := by decide +kernel
theorem dX0_add_10 : decode cX0_add 10 = .ok (.invokevirtual 28, 3) := by decide +kernel
theorem dX0_add_13 : decode cX0_add 13 = .ok (.aload_n 0, 1) := by decide +kernel
theorem dX0_add_14 : decode cX0_add 14 = .ok (.getfield 9, 3) := by decide +kernel
theorem dX0_add_17 : decode cX0_add 17 = .ok (.aload_n 0, 1) := by decide +kernel
theorem dX0_add_18 : decode cX0_add 18 = .ok (.getfield 24, 3) := by decide +kernel
theorem dX0_add_21 : decode cX0_add 21 = .ok (.iload_n 1, 1) := by decide +kernel
theorem dX0_add_22 : decode cX0_add 22 = .ok (.iastore, 1) := by decide +kernel
theorem dX0_add_23 : decode cX0_add 23 = .ok (.aload_n 0, 1) := by decide +kernel
theorem dX0_add_24 : decode cX0_add 24 = .ok (.getfield 15, 3) := by decide +kernel
theorem dX0_add_27 : decode cX0_add 27 = .ok (.aload_n 0, 1) := by decide +kernel
theorem dX0_add_28 : decode cX0_add 28 = .ok (.getfield 24, 3) := by decide +kernel
theorem dX0_add_31 : decode cX0_add 31 = .ok (.iload_n 2, 1) := by decide +kernel
theorem dX0_add_32 : decode cX0_add 32 = .ok (.iastore, 1) := by decide +kernel
theorem dX0_add_33 : decode cX0_add 33 = .ok (.aload_n 0, 1) := by decide +kernel
theorem dX0_add_34 : decode cX0_add 34 = .ok (.getfield 18, 3) := by decide +kernel
theorem dX0_add_37 : decode cX0_add 37 = .ok (.aload_n 0, 1) := by decide +kernel
theorem dX0_add_38 : decode cX0_add 38 = .ok (.getfield 24, 3) := by decide +kernel
theorem dX0_add_41 : decode cX0_add 41 = .ok (.iload_n 3, 1) := by decide +kernel
theorem dX0_add_42 : decode cX0_add 42 = .ok (.iastore, 1) := by decide +kernel
theorem dX0_add_43 : decode cX0_add 43 = .ok (.aload_n 0, 1) := by decide +kernel
theorem dX0_add_44 : decode cX0_add 44 = .ok (.getfield 21, 3) := by decide +kernel
theorem dX0_add_47 : decode cX0_add 47 = .ok (.aload_n 0, 1) := by decide +kernel
theorem dX0_add_48 : decode cX0_add 48 = .ok (.getfield 24, 3) := by decide +kernel
theorem dX0_add_51 : decode cX0_add 51 = .ok (.iload 4, 2) := by decide +kernel
theorem dX0_add_53 : decode cX0_add 53 = .ok (.iastore, 1) := by decide +kernel
theorem dX0_add_54 : decode cX0_add 54 = .ok (.aload_n 0, 1) := by decide +kernel
theorem dX0_add_55 : decode cX0_add 55 = .ok (.dup, 1) := by decide +kernel
theorem dX0_add_56 : decode cX0_add 56 = .ok (.getfield 24, 3) := by decide +kernel
theorem dX0_add_59 : decode cX0_add 59 = .ok (.iconst 1, 1) := by decide +kernel
theorem dX0_add_60 : decode cX0_add 60 = .ok (.iadd, 1) := by decide +kernel
theorem dX0_add_61 : decode cX0_add 61 = .ok (.putfield 24, 3) := by decide +kernel
theorem dX0_add_64 : decode cX0_add 64 = .ok (.return_, 1) := by decide +kernel
theorem dX0_dropFirst_0 : decode cX0_dropFirst 0 = .ok (.iconst 1, 1) := by decide +kernel
theorem dX0_dropFirst_1 : decode cX0_dropFirst 1 = .ok (.istore_n 1, 1) := by decide +kernel
theorem dX0_dropFirst_2 : decode cX0_dropFirst 2 = .ok (.iload_n 1, 1) := by decide +kernel
theorem dX0_dropFirst_3 : decode cX0_dropFirst 3 = .ok (.bipush 20, 2) := by decide +kernel
theorem dX0_dropFirst_5 : decode cX0_dropFirst 5 = .ok (.if_icmp .ge 65, 3) := by decide +kernel
theorem dX0_dropFirst_8 : decode cX0_dropFirst 8 = .ok (.aload_n 0, 1) := by decide +kernel
theorem dX0_dropFirst_9 : decode cX0_dropFirst 9 = .ok (.getfield 9, 3) := by decide +kernel
theorem dX0_dropFirst_12 : decode cX0_dropFirst 12 = .ok (.iload_n 1, 1) := by decide +kernel
theorem dX0_dropFirst_13 : decode cX0_dropFirst 13 = .ok (.iconst 1, 1) := by decide +kernel
theorem dX0_dropFirst_14 : decode cX0_dropFirst 14 = .ok (.isub, 1) := by decide +kernel
theorem dX0_dropFirst_15 : decode cX0_dropFirst 15 = .ok (.aload_n 0, 1) := by decide +kernel
theorem dX0_dropFirst_16 : decode cX0_dropFirst 16 = .ok (.getfield 9, 3) := by decide +kernel
theorem dX0_dropFirst_19 : decode cX0_dropFirst 19 = .ok (.iload_n 1, 1) := by decide +kernel
theorem dX0_dropFirst_20 : decode cX0_dropFirst 20 = .ok (.iaload, 1) := by decide +kernel
theorem dX0_dropFirst_21 : decode cX0_dropFirst 21 = .ok (.iastore, 1) := by decide +kernel
theorem dX0_dropFirst_22 : decode cX0_dropFirst 22 = .ok (.aload_n 0, 1) := by decide +kernel
theorem dX0_dropFirst_23 : decode cX0_dropFirst 23 = .ok (.getfield 15, 3) := by decide +kernel
theorem dX0_dropFirst_26 : decode cX0_dropFirst 26 = .ok (.iload_n 1, 1) := by decide +kernel
theorem dX0_dropFirst_27 : decode cX0_dropFirst 27 = .ok (.iconst 1, 1) := by decide +kernel
theorem dX0_dropFirst_28 : decode cX0_dropFirst 28 = .ok (.isub, 1) := by decide +kernel
theorem dX0_dropFirst_29 : decode cX0_dropFirst 29 = .ok (.aload_n 0, 1) := by decide +kernel
theorem dX0_dropFirst_30 : decode cX0_dropFirst 30 = .ok (.getfield 15, 3) := by decide +kernel
theorem dX0_dropFirst_33 : decode cX0_dropFirst 33 = .ok (.iload_n 1, 1) := by decide +kernel
theorem dX0_dropFirst_34 : decode cX0_dropFirst 34 = .ok (.iaload, 1) := by decide +kernel
theorem dX0_dropFirst_35 : decode cX0_dropFirst 35 = .ok (.iastore, 1) := by decide +kernel
theorem dX0_dropFirst_36 : decode cX0_dropFirst 36 = .ok (.aload_n 0, 1) := by decide +kernel
theorem dX0_dropFirst_37 : decode cX0_dropFirst 37 = .ok (.getfield 18, 3) := by decide +kernel
theorem dX0_dropFirst_40 : decode cX0_dropFirst 40 = .ok (.iload_n 1, 1) := by decide +kernel
theorem dX0_dropFirst_41 : decode cX0_dropFirst 41 = .ok (.iconst 1, 1) := by decide +kernel
theorem dX0_dropFirst_42 : decode cX0_dropFirst 42 = .ok (.isub, 1) := by decide +kernel
theorem dX0_dropFirst_43 : decode cX0_dropFirst 43 = .ok (.aload_n 0, 1) := by decide +kernel
theorem dX0_dropFirst_44 : decode cX0_dropFirst 44 = .ok (.getfield 18, 3) := by decide +kernel
theorem dX0_dropFirst_47 : decode cX0_dropFirst 47 = .ok (.iload_n 1, 1) := by decide +kernel
theorem dX0_dropFirst_48 : decode cX0_dropFirst 48 = .ok (.iaload, 1) := by decide +kernel
theorem dX0_dropFirst_49 : decode cX0_dropFirst 49 = .ok (.iastore, 1) := by decide +kernel
theorem dX0_dropFirst_50 : decode cX0_dropFirst 50 = .ok (.aload_n 0, 1) := by decide +kernel
theorem dX0_dropFirst_51 : decode cX0_dropFirst 51 = .ok (.getfield 21, 3) := by decide +kernel
theorem dX0_dropFirst_54 : decode cX0_dropFirst 54 = .ok (.iload_n 1, 1) := by decide +kernel
theorem dX0_dropFirst_55 : decode cX0_dropFirst 55 = .ok (.iconst 1, 1) := by decide +kernel
theorem dX0_dropFirst_56 : decode cX0_dropFirst 56 = .ok (.isub, 1) := by decide +kernel
theorem dX0_dropFirst_57 : decode cX0_dropFirst 57 = .ok (.aload_n 0, 1) := by decide +kernel
theorem dX0_dropFirst_58 : decode cX0_dropFirst 58 = .ok (.getfield 21, 3) := by decide +kernel
theorem dX0_dropFirst_61 : decode cX0_dropFirst 61 = .ok (.iload_n 1, 1) := by decide +kernel
theorem dX0_dropFirst_62 : decode cX0_dropFirst 62 = .ok (.iaload, 1) := by decide +kernel
theorem dX0_dropFirst_63 : decode cX0_dropFirst 63 = .ok (.iastore, 1) := by decide +kernel
theorem dX0_dropFirst_64 : decode cX0_dropFirst 64 = .ok (.iinc 1 1, 3) := by decide +kernel
theorem dX0_dropFirst_67 : decode cX0_dropFirst 67 = .ok (.goto (-65), 3) := by decide +kernel
theorem dX0_dropFirst_70 : decode cX0_dropFirst 70 = .ok (.aload_n 0, 1) := by decide +kernel
theorem dX0_dropFirst_71 : decode cX0_dropFirst 71 = .ok (.bipush 19, 2) := by decide +kernel
theorem dX0_dropFirst_73 : decode cX0_dropFirst 73 = .ok (.putfield 24, 3) := by decide +kernel
theorem dX0_dropFirst_76 : decode cX0_dropFirst 76 = .ok (.return_, 1) := by decide +kernel
theorem dX0_takeBack_0 : decode cX0_takeBack 0 = .ok (.aload_n 0, 1) := by decide +kernel
theorem dX0_takeBack_1 : decode cX0_takeBack 1 = .ok (.getfield 24, 3) := by decide +kernel
theorem dX0_takeBack_4 : decode cX0_takeBack 4 = .ok (.ifCond .ne 4, 3) := by decide +kernel
theorem dX0_takeBack_7 : decode cX0_takeBack 7 = .ok (.return_, 1) := by decide +kernel
theorem dX0_takeBack_8 : decode cX0_takeBack 8 = .ok (.aload_n 0, 1) := by decide +kernel
theorem dX0_takeBack_9 : decode cX0_takeBack 9 = .ok (.dup, 1) := by decide +kernel
theorem dX0_takeBack_10 : decode cX0_takeBack 10 = .ok (.getfield 24, 3) := by decide +kernel
theorem dX0_takeBack_13 : decode cX0_takeBack 13 = .ok (.iconst 1, 1) := by decide +kernel
theorem dX0_takeBack_14 : decode cX0_takeBack 14 = .ok (.isub, 1) := by decide +kernel
theorem dX0_takeBack_15 : decode cX0_takeBack 15 = .ok (.putfield 24, 3) := by decide +kernel
theorem dX0_takeBack_18 : decode cX0_takeBack 18 = .ok (.aload_n 1, 1) := by decide +kernel
theorem dX0_takeBack_19 : decode cX0_takeBack 19 = .ok (.getfield 31, 3) := by decide +kernel
theorem dX0_takeBack_22 : decode cX0_takeBack 22 = .ok (.aload_n 0, 1) := by decide +kernel
theorem dX0_takeBack_23 : decode cX0_takeBack 23 = .ok (.getfield 15, 3) := by decide +kernel
theorem dX0_takeBack_26 : decode cX0_takeBack 26 = .ok (.aload_n 0, 1) := by decide +kernel
theorem dX0_takeBack_27 : decode cX0_takeBack 27 = .ok (.getfield 24, 3) := by decide +kernel
theorem dX0_takeBack_30 : decode cX0_takeBack 30 = .ok (.iaload, 1) := by decide +kernel
theorem dX0_takeBack_31 : decode cX0_takeBack 31 = .ok (.aaload, 1) := by decide +kernel
theorem dX0_takeBack_32 : decode cX0_takeBack 32 = .ok (.astore_n 2, 1) := by decide +kernel
theorem dX0_takeBack_33 : decode cX0_takeBack 33 = .ok (.aload_n 0, 1) := by decide +kernel
theorem dX0_takeBack_34 : decode cX0_takeBack 34 = .ok (.getfield 9, 3) := by decide +kernel
theorem dX0_takeBack_37 : decode cX0_takeBack 37 = .ok (.aload_n 0, 1) := by decide +kernel
theorem dX0_takeBack_38 : decode cX0_takeBack 38 = .ok (.getfield 24, 3) := by decide +kernel
theorem dX0_takeBack_41 : decode cX0_takeBack 41 = .ok (.iaload, 1) := by decide +kernel
theorem dX0_takeBack_42 : decode cX0_takeBack 42 = .ok (.tableswitch 93 0 2 #[26, 51, 67], 26) := by decide +kernel
theorem dX0_takeBack_68 : decode cX0_takeBack 68 = .ok (.aload_n 2, 1) := by decide +kernel
theorem dX0_takeBack_69 : decode cX0_takeBack 69 = .ok (.aload_n 0, 1) := by decide +kernel
theorem dX0_takeBack_70 : decode cX0_takeBack 70 = .ok (.getfield 21, 3) := by decide +kernel
theorem dX0_takeBack_73 : decode cX0_takeBack 73 = .ok (.aload_n 0, 1) := by decide +kernel
theorem dX0_takeBack_74 : decode cX0_takeBack 74 = .ok (.getfield 24, 3) := by decide +kernel
theorem dX0_takeBack_77 : decode cX0_takeBack 77 = .ok (.iaload, 1) := by decide +kernel
theorem dX0_takeBack_78 : decode cX0_takeBack 78 = .ok (.iconst 1, 1) := by decide +kernel
theorem dX0_takeBack_79 : decode cX0_takeBack 79 = .ok (.if_icmp .ne 7, 3) := by decide +kernel
theorem dX0_takeBack_82 : decode cX0_takeBack 82 = .ok (.iconst 1, 1) := by decide +kernel
theorem dX0_takeBack_83 : decode cX0_takeBack 83 = .ok (.goto 4, 3) := by decide +kernel
theorem dX0_takeBack_86 : decode cX0_takeBack 86 = .ok (.iconst 0, 1) := by decide +kernel
theorem dX0_takeBack_87 : decode cX0_takeBack 87 = .ok (.putfield 37, 3) := by decide +kernel
theorem dX0_takeBack_90 : decode cX0_takeBack 90 = .ok (.goto 58, 3) := by decide +kernel
theorem dX0_takeBack_93 : decode cX0_takeBack 93 = .ok (.aload_n 2, 1) := by decide +kernel
theorem dX0_takeBack_94 : decode cX0_takeBack 94 = .ok (.aload_n 0, 1) := by decide +kernel
theorem dX0_takeBack_95 : decode cX0_takeBack 95 = .ok (.getfield 21, 3) := by decide +kernel
theorem dX0_takeBack_98 : decode cX0_takeBack 98 = .ok (.aload_n 0, 1) := by decide +kernel
theorem dX0_takeBack_99 : decode cX0_takeBack 99 = .ok (.getfield 24, 3) := by decide +kernel
theorem dX0_takeBack_102 : decode cX0_takeBack 102 = .ok (.iaload, 1) := by decide +kernel
theorem dX0_takeBack_103 : decode cX0_takeBack 103 = .ok (.putfield 43, 3) := by decide +kernel
theorem dX0_takeBack_106 : decode cX0_takeBack 106 = .ok (.goto 42, 3) := by decide +kernel
theorem dX0_takeBack_109 : decode cX0_takeBack 109 = .ok (.aload_n 2, 1) := by decide +kernel
theorem dX0_takeBack_110 : decode cX0_takeBack 110 = .ok (.getfield 46, 3) := by decide +kernel
theorem dX0_takeBack_113 : decode cX0_takeBack 113 = .ok (.aload_n 0, 1) := by decide +kernel
theorem dX0_takeBack_114 : decode cX0_takeBack 114 = .ok (.getfield 18, 3) := by decide +kernel
theorem dX0_takeBack_117 : decode cX0_takeBack 117 = .ok (.aload_n 0, 1) := by decide +kernel
theorem dX0_takeBack_118 : decode cX0_takeBack 118 = .ok (.getfield 24, 3) := by decide +kernel
theorem dX0_takeBack_121 : decode cX0_takeBack 121 = .ok (.iaload, 1) := by decide +kernel
theorem dX0_takeBack_122 : decode cX0_takeBack 122 = .ok (.aload_n 0, 1) := by decide +kernel
theorem dX0_takeBack_123 : decode cX0_takeBack 123 = .ok (.getfield 21, 3) := by decide +kernel
theorem dX0_takeBack_126 : decode cX0_takeBack 126 = .ok (.aload_n 0, 1) := by decide +kernel
theorem dX0_takeBack_127 : decode cX0_takeBack 127 = .ok (.getfield 24, 3) := by decide +kernel
theorem dX0_takeBack_130 : decode cX0_takeBack 130 = .ok (.iaload, 1) := by decide +kernel
theorem dX0_takeBack_131 : decode cX0_takeBack 131 = .ok (.iastore, 1) := by decide +kernel
theorem dX0_takeBack_132 : decode cX0_takeBack 132 = .ok (.goto 16, 3) := by decide +kernel
theorem dX0_takeBack_135 : decode cX0_takeBack 135 = .ok (.aload_n 2, 1) := by decide +kernel
theorem dX0_takeBack_136 : decode cX0_takeBack 136 = .ok (.aload_n 0, 1) := by decide +kernel
theorem dX0_takeBack_137 : decode cX0_takeBack 137 = .ok (.getfield 21, 3) := by decide +kernel
theorem dX0_takeBack_140 : decode cX0_takeBack 140 = .ok (.aload_n 0, 1) := by decide +kernel
theorem dX0_takeBack_141 : decode cX0_takeBack 141 = .ok (.getfield 24, 3) := by decide +kernel
theorem dX0_takeBack_144 : decode cX0_takeBack 144 = .ok (.iaload, 1) := by decide +kernel
theorem dX0_takeBack_145 : decode cX0_takeBack 145 = .ok (.putfield 49, 3) := by decide +kernel
theorem dX0_takeBack_148 : decode cX0_takeBack 148 = .ok (.return_, 1) := by decide +kernel
theorem dX1_init_0 : decode cX1_init 0 = .ok (.aload_n 0, 1) := by decide +kernel
theorem dX1_init_1 : decode cX1_init 1 = .ok (.invokespecial 3, 3) := by decide +kernel
theorem dX1_init_4 : decode cX1_init 4 = .ok (.aload_n 0, 1) := by decide +kernel
theorem dX1_init_5 : decode cX1_init 5 = .ok (.bipush 72, 2) := by decide +kernel
theorem dX1_init_7 : decode cX1_init 7 = .ok (.newarray .int, 2) := by decide +kernel
theorem dX1_init_9 : decode cX1_init 9 = .ok (.putfield 9, 3) := by decide +kernel
theorem dX1_init_12 : decode cX1_init 12 = .ok (.aload_n 0, 1) := by decide +kernel
theorem dX1_init_13 : decode cX1_init 13 = .ok (.bipush 9, 2) := by decide +kernel
theorem dX1_init_15 : decode cX1_init 15 = .ok (.newarray .boolean, 2) := by decide +kernel
theorem dX1_init_17 : decode cX1_init 17 = .ok (.putfield 15, 3) := by decide +kernel
theorem dX1_init_20 : decode cX1_init 20 = .ok (.return_, 1) := by decide +kernel
theorem dX1_readInto_0 : decode cX1_readInto 0 = .ok (.aload_n 0, 1) := by decide +kernel
theorem dX1_readInto_1 : decode cX1_readInto 1 = .ok (.iconst 0, 1) := by decide +kernel
theorem dX1_readInto_2 : decode cX1_readInto 2 = .ok (.putfield 19, 3) := by decide +kernel
theorem dX1_readInto_5 : decode cX1_readInto 5 = .ok (.aload_n 0, 1) := by decide +kernel
theorem dX1_readInto_6 : decode cX1_readInto 6 = .ok (.iconst 0, 1) := by decide +kernel
theorem dX1_readInto_7 : decode cX1_readInto 7 = .ok (.putfield 23, 3) := by decide +kernel
theorem dX1_readInto_10 : decode cX1_readInto 10 = .ok (.aload_n 0, 1) := by decide +kernel
theorem dX1_readInto_11 : decode cX1_readInto 11 = .ok (.getfield 15, 3) := by decide +kernel
theorem dX1_readInto_14 : decode cX1_readInto 14 = .ok (.iconst 0, 1) := by decide +kernel
theorem dX1_readInto_15 : decode cX1_readInto 15 = .ok (.iconst 0, 1) := by decide +kernel
theorem dX1_readInto_16 : decode cX1_readInto 16 = .ok (.bastore, 1) := by decide +kernel
theorem dX1_readInto_17 : decode cX1_readInto 17 = .ok (.aload_n 0, 1) := by decide +kernel
theorem dX1_readInto_18 : decode cX1_readInto 18 = .ok (.iconst 1, 1) := by decide +kernel
theorem dX1_readInto_19 : decode cX1_readInto 19 = .ok (.putfield 26, 3) := by decide +kernel
theorem dX1_readInto_22 : decode cX1_readInto 22 = .ok (.aload_n 0, 1) := by decide +kernel
theorem dX1_readInto_23 : decode cX1_readInto 23 = .ok (.iconst 1, 1) := by decide +kernel
theorem dX1_readInto_24 : decode cX1_readInto 24 = .ok (.putfield 30, 3) := by decide +kernel
theorem dX1_readInto_27 : decode cX1_readInto 27 = .ok (.aload_n 1, 1) := by decide +kernel
theorem dX1_readInto_28 : decode cX1_readInto 28 = .ok (.iload_n 2, 1) := by decide +kernel
theorem dX1_readInto_29 : decode cX1_readInto 29 = .ok (.invokevirtual 33, 3) := by decide +kernel
theorem dX1_readInto_32 : decode cX1_readInto 32 = .ok (.aload_n 3, 1) := by decide +kernel
theorem dX1_readInto_33 : decode cX1_readInto 33 = .ok (.getfield 39, 3) := by decide +kernel
theorem dX1_readInto_36 : decode cX1_readInto 36 = .ok (.istore 4, 2) := by decide +kernel
theorem dX1_readInto_38 : decode cX1_readInto 38 = .ok (.iload 4, 2) := by decide +kernel
theorem dX1_readInto_40 : decode cX1_readInto 40 = .ok (.ifCond .le 137, 3) := by decide +kernel
theorem dX1_readInto_43 : decode cX1_readInto 43 = .ok (.aload_n 0, 1) := by decide +kernel
theorem dX1_readInto_44 : decode cX1_readInto 44 = .ok (.aload_n 3, 1) := by decide +kernel
theorem dX1_readInto_45 : decode cX1_readInto 45 = .ok (.getfield 44, 3) := by decide +kernel
theorem dX1_readInto_48 : decode cX1_readInto 48 = .ok (.invokevirtual 47, 3) := by decide +kernel
theorem dX1_readInto_51 : decode cX1_readInto 51 = .ok (.ifCond .eq 126, 3) := by decide +kernel
theorem dX1_readInto_54 : decode cX1_readInto 54 = .ok (.aload_n 0, 1) := by decide +kernel
theorem dX1_readInto_55 : decode cX1_readInto 55 = .ok (.aload_n 3, 1) := by decide +kernel
theorem dX1_readInto_56 : decode cX1_readInto 56 = .ok (.getfield 44, 3) := by decide +kernel
theorem dX1_readInto_59 : decode cX1_readInto 59 = .ok (.aload_n 3, 1) := by decide +kernel
theorem dX1_readInto_60 : decode cX1_readInto 60 = .ok (.getfield 51, 3) := by decide +kernel
theorem dX1_readInto_63 : decode cX1_readInto 63 = .ok (.aload_n 1, 1) := by decide +kernel
theorem dX1_readInto_64 : decode cX1_readInto 64 = .ok (.getfield 54, 3) := by decide +kernel
theorem dX1_readInto_67 : decode cX1_readInto 67 = .ok (.invokevirtual 57, 3) := by decide +kernel
theorem dX1_readInto_70 : decode cX1_readInto 70 = .ok (.ifCond .eq 5, 3) := by decide +kernel
theorem dX1_readInto_73 : decode cX1_readInto 73 = .ok (.iconst 2, 1) := by decide +kernel
theorem dX1_readInto_74 : decode cX1_readInto 74 = .ok (.ireturn, 1) := by decide +kernel
theorem dX1_readInto_75 : decode cX1_readInto 75 = .ok (.aload_n 3, 1) := by decide +kernel
theorem dX1_readInto_76 : decode cX1_readInto 76 = .ok (.getfield 44, 3) := by decide +kernel
theorem dX1_readInto_79 : decode cX1_readInto 79 = .ok (.invokestatic 61, 3) := by decide +kernel
theorem dX1_readInto_82 : decode cX1_readInto 82 = .ok (.ifCond .eq 33, 3) := by decide +kernel
theorem dX1_readInto_85 : decode cX1_readInto 85 = .ok (.aload_n 1, 1) := by decide +kernel
theorem dX1_readInto_86 : decode cX1_readInto 86 = .ok (.dup, 1) := by decide +kernel
theorem dX1_readInto_87 : decode cX1_readInto 87 = .ok (.getfield 54, 3) := by decide +kernel
theorem dX1_readInto_90 : decode cX1_readInto 90 = .ok (.iconst 1, 1) := by decide +kernel
theorem dX1_readInto_91 : decode cX1_readInto 91 = .ok (.iadd, 1) := by decide +kernel
theorem dX1_readInto_92 : decode cX1_readInto 92 = .ok (.putfield 54, 3) := by decide +kernel
theorem dX1_readInto_95 : decode cX1_readInto 95 = .ok (.aload_n 1, 1) := by decide +kernel
theorem dX1_readInto_96 : decode cX1_readInto 96 = .ok (.aload_n 3, 1) := by decide +kernel
theorem dX1_readInto_97 : decode cX1_readInto 97 = .ok (.getfield 44, 3) := by decide +kernel
theorem dX1_readInto_100 : decode cX1_readInto 100 = .ok (.aload_n 3, 1) := by decide +kernel
theorem dX1_readInto_101 : decode cX1_readInto 101 = .ok (.getfield 51, 3) := by decide +kernel
theorem dX1_readInto_104 : decode cX1_readInto 104 = .ok (.invokevirtual 64, 3) := by decide +kernel
theorem dX1_readInto_107 : decode cX1_readInto 107 = .ok (.aload_n 0, 1) := by decide +kernel
theorem dX1_readInto_108 : decode cX1_readInto 108 = .ok (.iconst 0, 1) := by decide +kernel
theorem dX1_readInto_109 : decode cX1_readInto 109 = .ok (.putfield 26, 3) := by decide +kernel
theorem dX1_readInto_112 : decode cX1_readInto 112 = .ok (.goto 55, 3) := by decide +kernel
theorem dX1_readInto_115 : decode cX1_readInto 115 = .ok (.aload_n 3, 1) := by decide +kernel
theorem dX1_readInto_116 : decode cX1_readInto 116 = .ok (.getfield 44, 3) := by decide +kernel
theorem dX1_readInto_119 : decode cX1_readInto 119 = .ok (.bipush 31, 2) := by decide +kernel
theorem dX1_readInto_121 : decode cX1_readInto 121 = .ok (.if_icmp .ne 10, 3) := by decide +kernel
theorem dX1_readInto_124 : decode cX1_readInto 124 = .ok (.aload_n 0, 1) := by decide +kernel
theorem dX1_readInto_125 : decode cX1_readInto 125 = .ok (.invokevirtual 68, 3) := by decide +kernel
theorem dX1_readInto_128 : decode cX1_readInto 128 = .ok (.goto 39, 3) := by decide +kernel
theorem dX1_readInto_131 : decode cX1_readInto 131 = .ok (.aload_n 3, 1) := by decide +kernel
theorem dX1_readInto_132 : decode cX1_readInto 132 = .ok (.getfield 44, 3) := by decide +kernel
theorem dX1_readInto_135 : decode cX1_readInto 135 = .ok (.bipush 32, 2) := by decide +kernel
theorem dX1_readInto_137 : decode cX1_readInto 137 = .ok (.if_icmp .ne 11, 3) := by decide +kernel
theorem dX1_readInto_140 : decode cX1_readInto 140 = .ok (.aload_n 0, 1) := by decide +kernel
theorem dX1_readInto_141 : decode cX1_readInto 141 = .ok (.aload_n 1, 1) := by decide +kernel
theorem dX1_readInto_142 : decode cX1_readInto 142 = .ok (.invokevirtual 71, 3) := by decide +kernel
theorem dX1_readInto_145 : decode cX1_readInto 145 = .ok (.goto 22, 3) := by decide +kernel
theorem dX1_readInto_148 : decode cX1_readInto 148 = .ok (.aload_n 1, 1) := by decide +kernel
theorem dX1_readInto_149 : decode cX1_readInto 149 = .ok (.dup, 1) := by decide +kernel
theorem dX1_readInto_150 : decode cX1_readInto 150 = .ok (.getfield 54, 3) := by decide +kernel
theorem dX1_readInto_153 : decode cX1_readInto 153 = .ok (.iconst 1, 1) := by decide +kernel
theorem dX1_readInto_154 : decode cX1_readInto 154 = .ok (.iadd, 1) := by decide +kernel
theorem dX1_readInto_155 : decode cX1_readInto 155 = .ok (.putfield 54, 3) := by decide +kernel
theorem dX1_readInto_158 : decode cX1_readInto 158 = .ok (.aload_n 0, 1) := by decide +kernel
theorem dX1_readInto_159 : decode cX1_readInto 159 = .ok (.aload_n 3, 1) := by decide +kernel
theorem dX1_readInto_160 : decode cX1_readInto 160 = .ok (.getfield 44, 3) := by decide +kernel
theorem dX1_readInto_163 : decode cX1_readInto 163 = .ok (.aload_n 1, 1) := by decide +kernel
theorem dX1_readInto_164 : decode cX1_readInto 164 = .ok (.invokevirtual 75, 3) := by decide +kernel
theorem dX1_readInto_167 : decode cX1_readInto 167 = .ok (.aload_n 3, 1) := by decide +kernel
theorem dX1_readInto_168 : decode cX1_readInto 168 = .ok (.invokevirtual 79, 3) := by decide +kernel
theorem dX1_readInto_171 : decode cX1_readInto 171 = .ok (.iinc 4 (-1), 3) := by decide +kernel
theorem dX1_readInto_174 : decode cX1_readInto 174 = .ok (.goto (-136), 3) := by decide +kernel
theorem dX1_readInto_177 : decode cX1_readInto 177 = .ok (.aload_n 0, 1) := by decide +kernel
theorem dX1_readInto_178 : decode cX1_readInto 178 = .ok (.getfield 26, 3) := by decide +kernel
theorem dX1_readInto_181 : decode cX1_readInto 181 = .ok (.ifCond .ne 10, 3) := by decide +kernel
theorem dX1_readInto_184 : decode cX1_readInto 184 = .ok (.aload_n 0, 1) := by decide +kernel
theorem dX1_readInto_185 : decode cX1_readInto 185 = .ok (.getfield 23, 3) := by decide +kernel
theorem dX1_readInto_188 : decode cX1_readInto 188 = .ok (.ifCond .le 5, 3) := by decide +kernel
theorem dX1_readInto_191 : decode cX1_readInto 191 = .ok (.iconst 1, 1) := by decide +kernel
theorem dX1_readInto_192 : decode cX1_readInto 192 = .ok (.ireturn, 1) := by decide +kernel
theorem dX1_readInto_193 : decode cX1_readInto 193 = .ok (.aload_n 0, 1) := by decide +kernel
theorem dX1_readInto_194 : decode cX1_readInto 194 = .ok (.aload_n 1, 1) := by decide +kernel
theorem dX1_readInto_195 : decode cX1_readInto 195 = .ok (.iconst 1, 1) := by decide +kernel
theorem dX1_readInto_196 : decode cX1_readInto 196 = .ok (.invokevirtual 82, 3) := by decide +kernel
theorem dX1_readInto_199 : decode cX1_readInto 199 = .ok (.aload_n 1, 1) := by decide +kernel
theorem dX1_readInto_200 : decode cX1_readInto 200 = .ok (.iload_n 2, 1) := by decide +kernel
theorem dX1_readInto_201 : decode cX1_readInto 201 = .ok (.invokevirtual 86, 3) := by decide +kernel
theorem dX1_readInto_204 : decode cX1_readInto 204 = .ok (.iconst 0, 1) := by decide +kernel
theorem dX1_readInto_205 : decode cX1_readInto 205 = .ok (.ireturn, 1) := by decide +kernel
theorem dX1_canStand_0 : decode cX1_canStand 0 = .ok (.aload_n 0, 1) := by decide +kernel
theorem dX1_canStand_1 : decode cX1_canStand 1 = .ok (.getfield 26, 3) := by decide +kernel
theorem dX1_canStand_4 : decode cX1_canStand 4 = .ok (.ifCond .eq 35, 3) := by decide +kernel
theorem dX1_canStand_7 : decode cX1_canStand 7 = .ok (.iload_n 1, 1) := by decide +kernel
theorem dX1_canStand_8 : decode cX1_canStand 8 = .ok (.invokestatic 61, 3) := by decide +kernel
theorem dX1_canStand_11 : decode cX1_canStand 11 = .ok (.ifCond .ne 22, 3) := by decide +kernel
theorem dX1_canStand_14 : decode cX1_canStand 14 = .ok (.iload_n 1, 1) := by decide +kernel
theorem dX1_canStand_15 : decode cX1_canStand 15 = .ok (.bipush 31, 2) := by decide +kernel
theorem dX1_canStand_17 : decode cX1_canStand 17 = .ok (.if_icmp .eq 16, 3) := by decide +kernel
theorem dX1_canStand_20 : decode cX1_canStand 20 = .ok (.iload_n 1, 1) := by decide +kernel
theorem dX1_canStand_21 : decode cX1_canStand 21 = .ok (.bipush 13, 2) := by decide +kernel
theorem dX1_canStand_23 : decode cX1_canStand 23 = .ok (.if_icmp .ne 14, 3) := by decide +kernel
theorem dX1_canStand_26 : decode cX1_canStand 26 = .ok (.aload_n 0, 1) := by decide +kernel
theorem dX1_canStand_27 : decode cX1_canStand 27 = .ok (.getfield 30, 3) := by decide +kernel
theorem dX1_canStand_30 : decode cX1_canStand 30 = .ok (.ifCond .eq 7, 3) := by decide +kernel
theorem dX1_canStand_33 : decode cX1_canStand 33 = .ok (.iconst 1, 1) := by decide +kernel
theorem dX1_canStand_34 : decode cX1_canStand 34 = .ok (.goto 4, 3) := by decide +kernel
theorem dX1_canStand_37 : decode cX1_canStand 37 = .ok (.iconst 0, 1) := by decide +kernel
theorem dX1_canStand_38 : decode cX1_canStand 38 = .ok (.ireturn, 1) := by decide +kernel
theorem dX1_canStand_39 : decode cX1_canStand 39 = .ok (.iload_n 1, 1) := by decide +kernel
theorem dX1_canStand_40 : decode cX1_canStand 40 = .ok (.bipush 32, 2) := by decide +kernel
theorem dX1_canStand_42 : decode cX1_canStand 42 = .ok (.if_icmp .ne 16, 3) := by decide +kernel
theorem dX1_canStand_45 : decode cX1_canStand 45 = .ok (.aload_n 0, 1) := by decide +kernel
theorem dX1_canStand_46 : decode cX1_canStand 46 = .ok (.getfield 23, 3) := by decide +kernel
theorem dX1_canStand_49 : decode cX1_canStand 49 = .ok (.ifCond .le 7, 3) := by decide +kernel
theorem dX1_canStand_52 : decode cX1_canStand 52 = .ok (.iconst 1, 1) := by decide +kernel
theorem dX1_canStand_53 : decode cX1_canStand 53 = .ok (.goto 4, 3) := by decide +kernel
theorem dX1_canStand_56 : decode cX1_canStand 56 = .ok (.iconst 0, 1) := by decide +kernel
theorem dX1_canStand_57 : decode cX1_canStand 57 = .ok (.ireturn, 1) := by decide +kernel
theorem dX1_canStand_58 : decode cX1_canStand 58 = .ok (.iload_n 1, 1) := by decide +kernel
theorem dX1_canStand_59 : decode cX1_canStand 59 = .ok (.bipush 11, 2) := by decide +kernel
theorem dX1_canStand_61 : decode cX1_canStand 61 = .ok (.if_icmp .eq 39, 3) := by decide +kernel
theorem dX1_canStand_64 : decode cX1_canStand 64 = .ok (.iload_n 1, 1) := by decide +kernel
theorem dX1_canStand_65 : decode cX1_canStand 65 = .ok (.bipush 12, 2) := by decide +kernel
theorem dX1_canStand_67 : decode cX1_canStand 67 = .ok (.if_icmp .eq 33, 3) := by decide +kernel
theorem dX1_canStand_70 : decode cX1_canStand 70 = .ok (.iload_n 1, 1) := by decide +kernel
theorem dX1_canStand_71 : decode cX1_canStand 71 = .ok (.bipush 27, 2) := by decide +kernel
theorem dX1_canStand_73 : decode cX1_canStand 73 = .ok (.bipush 30, 2) := by decide +kernel
theorem dX1_canStand_75 : decode cX1_canStand 75 = .ok (.invokestatic 89, 3) := by decide +kernel
theorem dX1_canStand_78 : decode cX1_canStand 78 = .ok (.ifCond .ne 22, 3) := by decide +kernel
theorem dX1_canStand_81 : decode cX1_canStand 81 = .ok (.iload_n 1, 1) := by decide +kernel
theorem dX1_canStand_82 : decode cX1_canStand 82 = .ok (.invokestatic 92, 3) := by decide +kernel
theorem dX1_canStand_85 : decode cX1_canStand 85 = .ok (.ifCond .eq 19, 3) := by decide +kernel
theorem dX1_canStand_88 : decode cX1_canStand 88 = .ok (.aload_n 0, 1) := by decide +kernel
theorem dX1_canStand_89 : decode cX1_canStand 89 = .ok (.getfield 15, 3) := by decide +kernel
theorem dX1_canStand_92 : decode cX1_canStand 92 = .ok (.aload_n 0, 1) := by decide +kernel
theorem dX1_canStand_93 : decode cX1_canStand 93 = .ok (.getfield 23, 3) := by decide +kernel
theorem dX1_canStand_96 : decode cX1_canStand 96 = .ok (.baload, 1) := by decide +kernel
theorem dX1_canStand_97 : decode cX1_canStand 97 = .ok (.ifCond .ne 7, 3) := by decide +kernel
theorem dX1_canStand_100 : decode cX1_canStand 100 = .ok (.iconst 1, 1) := by decide +kernel
theorem dX1_canStand_101 : decode cX1_canStand 101 = .ok (.goto 4, 3) := by decide +kernel
theorem dX1_canStand_104 : decode cX1_canStand 104 = .ok (.iconst 0, 1) := by decide +kernel
theorem dX1_canStand_105 : decode cX1_canStand 105 = .ok (.ireturn, 1) := by decide +kernel
theorem dX1_isValue_0 : decode cX1_isValue 0 = .ok (.iload_n 0, 1) := by decide +kernel
theorem dX1_isValue_1 : decode cX1_isValue 1 = .ok (.bipush 34, 2) := by decide +kernel
theorem dX1_isValue_3 : decode cX1_isValue 3 = .ok (.if_icmp .eq 14, 3) := by decide +kernel
theorem dX1_isValue_6 : decode cX1_isValue 6 = .ok (.iload_n 0, 1) := by decide +kernel
theorem dX1_isValue_7 : decode cX1_isValue 7 = .ok (.bipush 14, 2) := by decide +kernel
theorem dX1_isValue_9 : decode cX1_isValue 9 = .ok (.bipush 20, 2) := by decide +kernel
theorem dX1_isValue_11 : decode cX1_isValue 11 = .ok (.invokestatic 89, 3) := by decide +kernel
theorem dX1_isValue_14 : decode cX1_isValue 14 = .ok (.ifCond .eq 7, 3) := by decide +kernel
theorem dX1_isValue_17 : decode cX1_isValue 17 = .ok (.iconst 1, 1) := by decide +kernel
theorem dX1_isValue_18 : decode cX1_isValue 18 = .ok (.goto 4, 3) := by decide +kernel
theorem dX1_isValue_21 : decode cX1_isValue 21 = .ok (.iconst 0, 1) := by decide +kernel
theorem dX1_isValue_22 : decode cX1_isValue 22 = .ok (.ireturn, 1) := by decide +kernel
theorem dX1_isComparison_0 : decode cX1_isComparison 0 = .ok (.iload_n 0, 1) := by decide +kernel
theorem dX1_isComparison_1 : decode cX1_isComparison 1 = .ok (.bipush 21, 2) := by decide +kernel
theorem dX1_isComparison_3 : decode cX1_isComparison 3 = .ok (.bipush 26, 2) := by decide +kernel
theorem dX1_isComparison_5 : decode cX1_isComparison 5 = .ok (.invokestatic 89, 3) := by decide +kernel
theorem dX1_isComparison_8 : decode cX1_isComparison 8 = .ok (.ireturn, 1) := by decide +kernel
theorem dX1_isTooMuch_0 : decode cX1_isTooMuch 0 = .ok (.iload_n 1, 1) := by decide +kernel
theorem dX1_isTooMuch_1 : decode cX1_isTooMuch 1 = .ok (.bipush 31, 2) := by decide +kernel
theorem dX1_isTooMuch_3 : decode cX1_isTooMuch 3 = .ok (.if_icmp .ne 18, 3) := by decide +kernel
theorem dX1_isTooMuch_6 : decode cX1_isTooMuch 6 = .ok (.aload_n 0, 1) := by decide +kernel
theorem dX1_isTooMuch_7 : decode cX1_isTooMuch 7 = .ok (.getfield 23, 3) := by decide +kernel
theorem dX1_isTooMuch_10 : decode cX1_isTooMuch 10 = .ok (.bipush 8, 2) := by decide +kernel
theorem dX1_isTooMuch_12 : decode cX1_isTooMuch 12 = .ok (.if_icmp .lt 7, 3) := by decide +kernel
theorem dX1_isTooMuch_15 : decode cX1_isTooMuch 15 = .ok (.iconst 1, 1) := by decide +kernel
theorem dX1_isTooMuch_16 : decode cX1_isTooMuch 16 = .ok (.goto 4, 3) := by decide +kernel
theorem dX1_isTooMuch_19 : decode cX1_isTooMuch 19 = .ok (.iconst 0, 1) := by decide +kernel
theorem dX1_isTooMuch_20 : decode cX1_isTooMuch 20 = .ok (.ireturn, 1) := by decide +kernel
theorem dX1_isTooMuch_21 : decode cX1_isTooMuch 21 = .ok (.iload_n 1, 1) := by decide +kernel
theorem dX1_isTooMuch_22 : decode cX1_isTooMuch 22 = .ok (.bipush 32, 2) := by decide +kernel
theorem dX1_isTooMuch_24 : decode cX1_isTooMuch 24 = .ok (.if_icmp .eq 26, 3) := by decide +kernel
theorem dX1_isTooMuch_27 : decode cX1_isTooMuch 27 = .ok (.iload_n 3, 1) := by decide +kernel
theorem dX1_isTooMuch_28 : decode cX1_isTooMuch 28 = .ok (.bipush 64, 2) := by decide +kernel
theorem dX1_isTooMuch_30 : decode cX1_isTooMuch 30 = .ok (.if_icmp .ge 16, 3) := by decide +kernel
theorem dX1_isTooMuch_33 : decode cX1_isTooMuch 33 = .ok (.iload_n 1, 1) := by decide +kernel
theorem dX1_isTooMuch_34 : decode cX1_isTooMuch 34 = .ok (.bipush 34, 2) := by decide +kernel
theorem dX1_isTooMuch_36 : decode cX1_isTooMuch 36 = .ok (.if_icmp .ne 14, 3) := by decide +kernel
theorem dX1_isTooMuch_39 : decode cX1_isTooMuch 39 = .ok (.iload_n 2, 1) := by decide +kernel
theorem dX1_isTooMuch_40 : decode cX1_isTooMuch 40 = .ok (.sipush 9999, 3) := by decide +kernel
theorem dX1_isTooMuch_43 : decode cX1_isTooMuch 43 = .ok (.if_icmp .le 7, 3) := by decide +kernel
theorem dX1_isTooMuch_46 : decode cX1_isTooMuch 46 = .ok (.iconst 1, 1) := by decide +kernel
theorem dX1_isTooMuch_47 : decode cX1_isTooMuch 47 = .ok (.goto 4, 3) := by decide +kernel
theorem dX1_isTooMuch_50 : decode cX1_isTooMuch 50 = .ok (.iconst 0, 1) := by decide +kernel
theorem dX1_isTooMuch_51 : decode cX1_isTooMuch 51 = .ok (.ireturn, 1) := by decide +kernel
theorem dX1_takeOpen_0 : decode cX1_takeOpen 0 = .ok (.aload_n 0, 1) := by decide +kernel
theorem dX1_takeOpen_1 : decode cX1_takeOpen 1 = .ok (.dup, 1) := by decide +kernel
theorem dX1_takeOpen_2 : decode cX1_takeOpen 2 = .ok (.getfield 23, 3) := by decide +kernel
theorem dX1_takeOpen_5 : decode cX1_takeOpen 5 = .ok (.iconst 1, 1) := by decide +kernel
theorem dX1_takeOpen_6 : decode cX1_takeOpen 6 = .ok (.iadd, 1) := by decide +kernel
theorem dX1_takeOpen_7 : decode cX1_takeOpen 7 = .ok (.putfield 23, 3) := by decide +kernel
theorem dX1_takeOpen_10 : decode cX1_takeOpen 10 = .ok (.aload_n 0, 1) := by decide +kernel
theorem dX1_takeOpen_11 : decode cX1_takeOpen 11 = .ok (.getfield 15, 3) := by decide +kernel
theorem dX1_takeOpen_14 : decode cX1_takeOpen 14 = .ok (.aload_n 0, 1) := by decide +kernel
theorem dX1_takeOpen_15 : decode cX1_takeOpen 15 = .ok (.getfield 23, 3) := by decide +kernel
theorem dX1_takeOpen_18 : decode cX1_takeOpen 18 = .ok (.iconst 0, 1) := by decide +kernel
theorem dX1_takeOpen_19 : decode cX1_takeOpen 19 = .ok (.bastore, 1) := by decide +kernel
theorem dX1_takeOpen_20 : decode cX1_takeOpen 20 = .ok (.aload_n 0, 1) := by decide +kernel
theorem dX1_takeOpen_21 : decode cX1_takeOpen 21 = .ok (.bipush 31, 2) := by decide +kernel
theorem dX1_takeOpen_23 : decode cX1_takeOpen 23 = .ok (.invokevirtual 95, 3) := by decide +kernel
theorem dX1_takeOpen_26 : decode cX1_takeOpen 26 = .ok (.aload_n 0, 1) := by decide +kernel
theorem dX1_takeOpen_27 : decode cX1_takeOpen 27 = .ok (.iconst 1, 1) := by decide +kernel
theorem dX1_takeOpen_28 : decode cX1_takeOpen 28 = .ok (.putfield 30, 3) := by decide +kernel
theorem dX1_takeOpen_31 : decode cX1_takeOpen 31 = .ok (.return_, 1) := by decide +kernel
theorem dX1_takeClose_0 : decode cX1_takeClose 0 = .ok (.aload_n 0, 1) := by decide +kernel
theorem dX1_takeClose_1 : decode cX1_takeClose 1 = .ok (.aload_n 1, 1) := by decide +kernel
theorem dX1_takeClose_2 : decode cX1_takeClose 2 = .ok (.iconst 1, 1) := by decide +kernel
theorem dX1_takeClose_3 : decode cX1_takeClose 3 = .ok (.invokevirtual 82, 3) := by decide +kernel
theorem dX1_takeClose_6 : decode cX1_takeClose 6 = .ok (.aload_n 0, 1) := by decide +kernel
theorem dX1_takeClose_7 : decode cX1_takeClose 7 = .ok (.iconst 0, 1) := by decide +kernel
theorem dX1_takeClose_8 : decode cX1_takeClose 8 = .ok (.aload_n 0, 1) := by decide +kernel
theorem dX1_takeClose_9 : decode cX1_takeClose 9 = .ok (.getfield 19, 3) := by decide +kernel
theorem dX1_takeClose_12 : decode cX1_takeClose 12 = .ok (.iconst 1, 1) := by decide +kernel
theorem dX1_takeClose_13 : decode cX1_takeClose 13 = .ok (.isub, 1) := by decide +kernel
theorem dX1_takeClose_14 : decode cX1_takeClose 14 = .ok (.invokestatic 98, 3) := by decide +kernel
theorem dX1_takeClose_17 : decode cX1_takeClose 17 = .ok (.putfield 19, 3) := by decide +kernel
theorem dX1_takeClose_20 : decode cX1_takeClose 20 = .ok (.aload_n 0, 1) := by decide +kernel
theorem dX1_takeClose_21 : decode cX1_takeClose 21 = .ok (.dup, 1) := by decide +kernel
theorem dX1_takeClose_22 : decode cX1_takeClose 22 = .ok (.getfield 23, 3) := by decide +kernel
theorem dX1_takeClose_25 : decode cX1_takeClose 25 = .ok (.iconst 1, 1) := by decide +kernel
theorem dX1_takeClose_26 : decode cX1_takeClose 26 = .ok (.isub, 1) := by decide +kernel
theorem dX1_takeClose_27 : decode cX1_takeClose 27 = .ok (.putfield 23, 3) := by decide +kernel
theorem dX1_takeClose_30 : decode cX1_takeClose 30 = .ok (.return_, 1) := by decide +kernel
theorem dX1_takeSign_0 : decode cX1_takeSign 0 = .ok (.iload_n 1, 1) := by decide +kernel
theorem dX1_takeSign_1 : decode cX1_takeSign 1 = .ok (.bipush 13, 2) := by decide +kernel
theorem dX1_takeSign_3 : decode cX1_takeSign 3 = .ok (.if_icmp .eq 12, 3) := by decide +kernel
theorem dX1_takeSign_6 : decode cX1_takeSign 6 = .ok (.aload_n 0, 1) := by decide +kernel
theorem dX1_takeSign_7 : decode cX1_takeSign 7 = .ok (.aload_n 2, 1) := by decide +kernel
theorem dX1_takeSign_8 : decode cX1_takeSign 8 = .ok (.iload_n 1, 1) := by decide +kernel
theorem dX1_takeSign_9 : decode cX1_takeSign 9 = .ok (.invokestatic 104, 3) := by decide +kernel
theorem dX1_takeSign_12 : decode cX1_takeSign 12 = .ok (.invokevirtual 82, 3) := by decide +kernel
theorem dX1_takeSign_15 : decode cX1_takeSign 15 = .ok (.aload_n 0, 1) := by decide +kernel
theorem dX1_takeSign_16 : decode cX1_takeSign 16 = .ok (.iload_n 1, 1) := by decide +kernel
theorem dX1_takeSign_17 : decode cX1_takeSign 17 = .ok (.invokevirtual 95, 3) := by decide +kernel
theorem dX1_takeSign_20 : decode cX1_takeSign 20 = .ok (.aload_n 0, 1) := by decide +kernel
theorem dX1_takeSign_21 : decode cX1_takeSign 21 = .ok (.iconst 1, 1) := by decide +kernel
theorem dX1_takeSign_22 : decode cX1_takeSign 22 = .ok (.putfield 26, 3) := by decide +kernel
theorem dX1_takeSign_25 : decode cX1_takeSign 25 = .ok (.aload_n 0, 1) := by decide +kernel
theorem dX1_takeSign_26 : decode cX1_takeSign 26 = .ok (.iload_n 1, 1) := by decide +kernel
theorem dX1_takeSign_27 : decode cX1_takeSign 27 = .ok (.invokestatic 104, 3) := by decide +kernel
theorem dX1_takeSign_30 : decode cX1_takeSign 30 = .ok (.bipush 13, 2) := by decide +kernel
theorem dX1_takeSign_32 : decode cX1_takeSign 32 = .ok (.invokestatic 104, 3) := by decide +kernel
theorem dX1_takeSign_35 : decode cX1_takeSign 35 = .ok (.if_icmp .gt 7, 3) := by decide +kernel
theorem dX1_takeSign_38 : decode cX1_takeSign 38 = .ok (.iconst 1, 1) := by decide +kernel
theorem dX1_takeSign_39 : decode cX1_takeSign 39 = .ok (.goto 4, 3) := by decide +kernel
theorem dX1_takeSign_42 : decode cX1_takeSign 42 = .ok (.iconst 0, 1) := by decide +kernel
theorem dX1_takeSign_43 : decode cX1_takeSign 43 = .ok (.putfield 30, 3) := by decide +kernel
theorem dX1_takeSign_46 : decode cX1_takeSign 46 = .ok (.iload_n 1, 1) := by decide +kernel
theorem dX1_takeSign_47 : decode cX1_takeSign 47 = .ok (.invokestatic 92, 3) := by decide +kernel
theorem dX1_takeSign_50 : decode cX1_takeSign 50 = .ok (.ifCond .eq 16, 3) := by decide +kernel
theorem dX1_takeSign_53 : decode cX1_takeSign 53 = .ok (.aload_n 0, 1) := by decide +kernel
theorem dX1_takeSign_54 : decode cX1_takeSign 54 = .ok (.getfield 15, 3) := by decide +kernel
theorem dX1_takeSign_57 : decode cX1_takeSign 57 = .ok (.aload_n 0, 1) := by decide +kernel
theorem dX1_takeSign_58 : decode cX1_takeSign 58 = .ok (.getfield 23, 3) := by decide +kernel
theorem dX1_takeSign_61 : decode cX1_takeSign 61 = .ok (.iconst 1, 1) := by decide +kernel
theorem dX1_takeSign_62 : decode cX1_takeSign 62 = .ok (.bastore, 1) := by decide +kernel
theorem dX1_takeSign_63 : decode cX1_takeSign 63 = .ok (.goto 20, 3) := by decide +kernel
theorem dX1_takeSign_66 : decode cX1_takeSign 66 = .ok (.aload_n 0, 1) := by decide +kernel
theorem dX1_takeSign_67 : decode cX1_takeSign 67 = .ok (.getfield 30, 3) := by decide +kernel
theorem dX1_takeSign_70 : decode cX1_takeSign 70 = .ok (.ifCond .eq 13, 3) := by decide +kernel
theorem dX1_takeSign_73 : decode cX1_takeSign 73 = .ok (.aload_n 0, 1) := by decide +kernel
theorem dX1_takeSign_74 : decode cX1_takeSign 74 = .ok (.getfield 15, 3) := by decide +kernel
theorem dX1_takeSign_77 : decode cX1_takeSign 77 = .ok (.aload_n 0, 1) := by decide +kernel
theorem dX1_takeSign_78 : decode cX1_takeSign 78 = .ok (.getfield 23, 3) := by decide +kernel
theorem dX1_takeSign_81 : decode cX1_takeSign 81 = .ok (.iconst 0, 1) := by decide +kernel
theorem dX1_takeSign_82 : decode cX1_takeSign 82 = .ok (.bastore, 1) := by decide +kernel
theorem dX1_takeSign_83 : decode cX1_takeSign 83 = .ok (.return_, 1) := by decide +kernel
theorem dX1_hold_0 : decode cX1_hold 0 = .ok (.aload_n 0, 1) := by decide +kernel
theorem dX1_hold_1 : decode cX1_hold 1 = .ok (.getfield 19, 3) := by decide +kernel
theorem dX1_hold_4 : decode cX1_hold 4 = .ok (.aload_n 0, 1) := by decide +kernel
theorem dX1_hold_5 : decode cX1_hold 5 = .ok (.getfield 9, 3) := by decide +kernel
theorem dX1_hold_8 : decode cX1_hold 8 = .ok (.arraylength, 1) := by decide +kernel
theorem dX1_hold_9 : decode cX1_hold 9 = .ok (.if_icmp .ge 23, 3) := by decide +kernel
theorem dX1_hold_12 : decode cX1_hold 12 = .ok (.aload_n 0, 1) := by decide +kernel
theorem dX1_hold_13 : decode cX1_hold 13 = .ok (.getfield 9, 3) := by decide +kernel
theorem dX1_hold_16 : decode cX1_hold 16 = .ok (.aload_n 0, 1) := by decide +kernel
theorem dX1_hold_17 : decode cX1_hold 17 = .ok (.getfield 19, 3) := by decide +kernel
theorem dX1_hold_20 : decode cX1_hold 20 = .ok (.iload_n 1, 1) := by decide +kernel
theorem dX1_hold_21 : decode cX1_hold 21 = .ok (.iastore, 1) := by decide +kernel
theorem dX1_hold_22 : decode cX1_hold 22 = .ok (.aload_n 0, 1) := by decide +kernel
theorem dX1_hold_23 : decode cX1_hold 23 = .ok (.dup, 1) := by decide +kernel
theorem dX1_hold_24 : decode cX1_hold 24 = .ok (.getfield 19, 3) := by decide +kernel
theorem dX1_hold_27 : decode cX1_hold 27 = .ok (.iconst 1, 1) := by decide +kernel
theorem dX1_hold_28 : decode cX1_hold 28 = .ok (.iadd, 1) := by decide +kernel
theorem dX1_hold_29 : decode cX1_hold 29 = .ok (.putfield 19, 3) := by decide +kernel
theorem dX1_hold_32 : decode cX1_hold 32 = .ok (.return_, 1) := by decide +kernel
theorem dX1_release_0 : decode cX1_release 0 = .ok (.aload_n 0, 1) := by decide +kernel
theorem dX1_release_1 : decode cX1_release 1 = .ok (.getfield 19, 3) := by decide +kernel
theorem dX1_release_4 : decode cX1_release 4 = .ok (.ifCond .le 48, 3) := by decide +kernel
theorem dX1_release_7 : decode cX1_release 7 = .ok (.aload_n 0, 1) := by decide +kernel
theorem dX1_release_8 : decode cX1_release 8 = .ok (.getfield 9, 3) := by decide +kernel
theorem dX1_release_11 : decode cX1_release 11 = .ok (.aload_n 0, 1) := by decide +kernel
theorem dX1_release_12 : decode cX1_release 12 = .ok (.getfield 19, 3) := by decide +kernel
theorem dX1_release_15 : decode cX1_release 15 = .ok (.iconst 1, 1) := by decide +kernel
theorem dX1_release_16 : decode cX1_release 16 = .ok (.isub, 1) := by decide +kernel
theorem dX1_release_17 : decode cX1_release 17 = .ok (.iaload, 1) := by decide +kernel
theorem dX1_release_18 : decode cX1_release 18 = .ok (.invokestatic 104, 3) := by decide +kernel
theorem dX1_release_21 : decode cX1_release 21 = .ok (.iload_n 2, 1) := by decide +kernel
theorem dX1_release_22 : decode cX1_release 22 = .ok (.if_icmp .lt 30, 3) := by decide +kernel
theorem dX1_release_25 : decode cX1_release 25 = .ok (.aload_n 0, 1) := by decide +kernel
theorem dX1_release_26 : decode cX1_release 26 = .ok (.dup, 1) := by decide +kernel
theorem dX1_release_27 : decode cX1_release 27 = .ok (.getfield 19, 3) := by decide +kernel
theorem dX1_release_30 : decode cX1_release 30 = .ok (.iconst 1, 1) := by decide +kernel
theorem dX1_release_31 : decode cX1_release 31 = .ok (.isub, 1) := by decide +kernel
theorem dX1_release_32 : decode cX1_release 32 = .ok (.putfield 19, 3) := by decide +kernel
theorem dX1_release_35 : decode cX1_release 35 = .ok (.aload_n 1, 1) := by decide +kernel
theorem dX1_release_36 : decode cX1_release 36 = .ok (.aload_n 0, 1) := by decide +kernel
theorem dX1_release_37 : decode cX1_release 37 = .ok (.getfield 9, 3) := by decide +kernel
theorem dX1_release_40 : decode cX1_release 40 = .ok (.aload_n 0, 1) := by decide +kernel
theorem dX1_release_41 : decode cX1_release 41 = .ok (.getfield 19, 3) := by decide +kernel
theorem dX1_release_44 : decode cX1_release 44 = .ok (.iaload, 1) := by decide +kernel
theorem dX1_release_45 : decode cX1_release 45 = .ok (.iconst 0, 1) := by decide +kernel
theorem dX1_release_46 : decode cX1_release 46 = .ok (.invokevirtual 64, 3) := by decide +kernel
theorem dX1_release_49 : decode cX1_release 49 = .ok (.goto (-49), 3) := by decide +kernel
theorem dX1_release_52 : decode cX1_release 52 = .ok (.return_, 1) := by decide +kernel
theorem dX1_strength_0 : decode cX1_strength 0 = .ok (.iload_n 0, 1) := by decide +kernel
theorem dX1_strength_1 : decode cX1_strength 1 = .ok (.tableswitch 112 11 31 #[101, 103, 105, 112, 112, 112, 112, 112, 112, 112, 112, 112, 112, 112, 112, 112, 107, 107, 109, 109, 99], 99) := by decide +kernel
theorem dX1_strength_100 : decode cX1_strength 100 = .ok (.iconst 0, 1) := by decide +kernel
theorem dX1_strength_101 : decode cX1_strength 101 = .ok (.ireturn, 1) := by decide +kernel
theorem dX1_strength_102 : decode cX1_strength 102 = .ok (.iconst 1, 1) := by decide +kernel
theorem dX1_strength_103 : decode cX1_strength 103 = .ok (.ireturn, 1) := by decide +kernel
theorem dX1_strength_104 : decode cX1_strength 104 = .ok (.iconst 2, 1) := by decide +kernel
theorem dX1_strength_105 : decode cX1_strength 105 = .ok (.ireturn, 1) := by decide +kernel
theorem dX1_strength_106 : decode cX1_strength 106 = .ok (.iconst 3, 1) := by decide +kernel
theorem dX1_strength_107 : decode cX1_strength 107 = .ok (.ireturn, 1) := by decide +kernel
theorem dX1_strength_108 : decode cX1_strength 108 = .ok (.iconst 5, 1) := by decide +kernel
theorem dX1_strength_109 : decode cX1_strength 109 = .ok (.ireturn, 1) := by decide +kernel
theorem dX1_strength_110 : decode cX1_strength 110 = .ok (.bipush 6, 2) := by decide +kernel
theorem dX1_strength_112 : decode cX1_strength 112 = .ok (.ireturn, 1) := by decide +kernel
theorem dX1_strength_113 : decode cX1_strength 113 = .ok (.iconst 4, 1) := by decide +kernel
theorem dX1_strength_114 : decode cX1_strength 114 = .ok (.ireturn, 1) := by decide +kernel
theorem dX2_init_0 : decode cX2_init 0 = .ok (.aload_n 0, 1) := by decide +kernel
theorem dX2_init_1 : decode cX2_init 1 = .ok (.invokespecial 3, 3) := by decide +kernel
theorem dX2_init_4 : decode cX2_init 4 = .ok (.aload_n 0, 1) := by decide +kernel
theorem dX2_init_5 : decode cX2_init 5 = .ok (.bipush 64, 2) := by decide +kernel
theorem dX2_init_7 : decode cX2_init 7 = .ok (.newarray .int, 2) := by decide +kernel
theorem dX2_init_9 : decode cX2_init 9 = .ok (.putfield 9, 3) := by decide +kernel
theorem dX2_init_12 : decode cX2_init 12 = .ok (.aload_n 0, 1) := by decide +kernel
theorem dX2_init_13 : decode cX2_init 13 = .ok (.bipush 64, 2) := by decide +kernel
theorem dX2_init_15 : decode cX2_init 15 = .ok (.newarray .int, 2) := by decide +kernel
theorem dX2_init_17 : decode cX2_init 17 = .ok (.putfield 15, 3) := by decide +kernel
theorem dX2_init_20 : decode cX2_init 20 = .ok (.aload_n 0, 1) := by decide +kernel
theorem dX2_init_21 : decode cX2_init 21 = .ok (.iconst 3, 1) := by decide +kernel
theorem dX2_init_22 : decode cX2_init 22 = .ok (.newarray .int, 2) := by decide +kernel
theorem dX2_init_24 : decode cX2_init 24 = .ok (.putfield 18, 3) := by decide +kernel
theorem dX2_init_27 : decode cX2_init 27 = .ok (.aload_n 0, 1) := by decide +kernel
theorem dX2_init_28 : decode cX2_init 28 = .ok (.iconst 3, 1) := by decide +kernel
theorem dX2_init_29 : decode cX2_init 29 = .ok (.newarray .int, 2) := by decide +kernel
theorem dX2_init_31 : decode cX2_init 31 = .ok (.putfield 21, 3) := by decide +kernel
theorem dX2_init_34 : decode cX2_init 34 = .ok (.aload_n 0, 1) := by decide +kernel
theorem dX2_init_35 : decode cX2_init 35 = .ok (.bipush 64, 2) := by decide +kernel
theorem dX2_init_37 : decode cX2_init 37 = .ok (.newarray .long, 2) := by decide +kernel
theorem dX2_init_39 : decode cX2_init 39 = .ok (.putfield 24, 3) := by decide +kernel
theorem dX2_init_42 : decode cX2_init 42 = .ok (.aload_n 0, 1) := by decide +kernel
theorem dX2_init_43 : decode cX2_init 43 = .ok (.bipush 7, 2) := by decide +kernel
theorem dX2_init_45 : decode cX2_init 45 = .ok (.newarray .long, 2) := by decide +kernel
theorem dX2_init_47 : decode cX2_init 47 = .ok (.putfield 28, 3) := by decide +kernel
theorem dX2_init_50 : decode cX2_init 50 = .ok (.return_, 1) := by decide +kernel
theorem dX2_clear_0 : decode cX2_clear 0 = .ok (.aload_n 0, 1) := by decide +kernel
theorem dX2_clear_1 : decode cX2_clear 1 = .ok (.iconst 0, 1) := by decide +kernel
theorem dX2_clear_2 : decode cX2_clear 2 = .ok (.putfield 31, 3) := by decide +kernel
theorem dX2_clear_5 : decode cX2_clear 5 = .ok (.aload_n 0, 1) := by decide +kernel
theorem dX2_clear_6 : decode cX2_clear 6 = .ok (.iconst 0, 1) := by decide +kernel
theorem dX2_clear_7 : decode cX2_clear 7 = .ok (.putfield 35, 3) := by decide +kernel
theorem dX2_clear_10 : decode cX2_clear 10 = .ok (.aload_n 0, 1) := by decide +kernel
theorem dX2_clear_11 : decode cX2_clear 11 = .ok (.iconst 0, 1) := by decide +kernel
theorem dX2_clear_12 : decode cX2_clear 12 = .ok (.putfield 38, 3) := by decide +kernel
theorem dX2_clear_15 : decode cX2_clear 15 = .ok (.aload_n 0, 1) := by decide +kernel
theorem dX2_clear_16 : decode cX2_clear 16 = .ok (.getfield 18, 3) := by decide +kernel
theorem dX2_clear_19 : decode cX2_clear 19 = .ok (.iconst 0, 1) := by decide +kernel
theorem dX2_clear_20 : decode cX2_clear 20 = .ok (.invokestatic 42, 3) := by decide +kernel
theorem dX2_clear_23 : decode cX2_clear 23 = .ok (.aload_n 0, 1) := by decide +kernel
theorem dX2_clear_24 : decode cX2_clear 24 = .ok (.getfield 21, 3) := by decide +kernel
theorem dX2_clear_27 : decode cX2_clear 27 = .ok (.iconst 0, 1) := by decide +kernel
theorem dX2_clear_28 : decode cX2_clear 28 = .ok (.invokestatic 42, 3) := by decide +kernel
theorem dX2_clear_31 : decode cX2_clear 31 = .ok (.return_, 1) := by decide +kernel
theorem dX2_begin_0 : decode cX2_begin 0 = .ok (.aload_n 0, 1) := by decide +kernel
theorem dX2_begin_1 : decode cX2_begin 1 = .ok (.getfield 18, 3) := by decide +kernel
theorem dX2_begin_4 : decode cX2_begin 4 = .ok (.iload_n 1, 1) := by decide +kernel
theorem dX2_begin_5 : decode cX2_begin 5 = .ok (.aload_n 0, 1) := by decide +kernel
theorem dX2_begin_6 : decode cX2_begin 6 = .ok (.getfield 31, 3) := by decide +kernel
theorem dX2_begin_9 : decode cX2_begin 9 = .ok (.iastore, 1) := by decide +kernel
theorem dX2_begin_10 : decode cX2_begin 10 = .ok (.return_, 1) := by decide +kernel
theorem dX2_end_0 : decode cX2_end 0 = .ok (.aload_n 0, 1) := by decide +kernel
theorem dX2_end_1 : decode cX2_end 1 = .ok (.getfield 21, 3) := by decide +kernel
theorem dX2_end_4 : decode cX2_end 4 = .ok (.iload_n 1, 1) := by decide +kernel
theorem dX2_end_5 : decode cX2_end 5 = .ok (.aload_n 0, 1) := by decide +kernel
theorem dX2_end_6 : decode cX2_end 6 = .ok (.getfield 31, 3) := by decide +kernel
theorem dX2_end_9 : decode cX2_end 9 = .ok (.iastore, 1) := by decide +kernel
theorem dX2_end_10 : decode cX2_end 10 = .ok (.return_, 1) := by decide +kernel
theorem dX2_add_0 : decode cX2_add 0 = .ok (.aload_n 0, 1) := by decide +kernel
theorem dX2_add_1 : decode cX2_add 1 = .ok (.getfield 31, 3) := by decide +kernel
theorem dX2_add_4 : decode cX2_add 4 = .ok (.bipush 64, 2) := by decide +kernel
theorem dX2_add_6 : decode cX2_add 6 = .ok (.if_icmp .ge 55, 3) := by decide +kernel
theorem dX2_add_9 : decode cX2_add 9 = .ok (.aload_n 0, 1) := by decide +kernel
theorem dX2_add_10 : decode cX2_add 10 = .ok (.getfield 9, 3) := by decide +kernel
theorem dX2_add_13 : decode cX2_add 13 = .ok (.aload_n 0, 1) := by decide +kernel
theorem dX2_add_14 : decode cX2_add 14 = .ok (.getfield 31, 3) := by decide +kernel
theorem dX2_add_17 : decode cX2_add 17 = .ok (.iload_n 1, 1) := by decide +kernel
theorem dX2_add_18 : decode cX2_add 18 = .ok (.iastore, 1) := by decide +kernel
theorem dX2_add_19 : decode cX2_add 19 = .ok (.aload_n 0, 1) := by decide +kernel
theorem dX2_add_20 : decode cX2_add 20 = .ok (.getfield 15, 3) := by decide +kernel
theorem dX2_add_23 : decode cX2_add 23 = .ok (.aload_n 0, 1) := by decide +kernel
theorem dX2_add_24 : decode cX2_add 24 = .ok (.getfield 31, 3) := by decide +kernel
theorem dX2_add_27 : decode cX2_add 27 = .ok (.iload_n 2, 1) := by decide +kernel
theorem dX2_add_28 : decode cX2_add 28 = .ok (.iastore, 1) := by decide +kernel
theorem dX2_add_29 : decode cX2_add 29 = .ok (.aload_n 0, 1) := by decide +kernel
theorem dX2_add_30 : decode cX2_add 30 = .ok (.dup, 1) := by decide +kernel
theorem dX2_add_31 : decode cX2_add 31 = .ok (.getfield 31, 3) := by decide +kernel
theorem dX2_add_34 : decode cX2_add 34 = .ok (.iconst 1, 1) := by decide +kernel
theorem dX2_add_35 : decode cX2_add 35 = .ok (.iadd, 1) := by decide +kernel
theorem dX2_add_36 : decode cX2_add 36 = .ok (.putfield 31, 3) := by decide +kernel
theorem dX2_add_39 : decode cX2_add 39 = .ok (.aload_n 0, 1) := by decide +kernel
theorem dX2_add_40 : decode cX2_add 40 = .ok (.aload_n 0, 1) := by decide +kernel
theorem dX2_add_41 : decode cX2_add 41 = .ok (.getfield 38, 3) := by decide +kernel
theorem dX2_add_44 : decode cX2_add 44 = .ok (.ifCond .ne 9, 3) := by decide +kernel
theorem dX2_add_47 : decode cX2_add 47 = .ok (.iload_n 1, 1) := by decide +kernel
theorem dX2_add_48 : decode cX2_add 48 = .ok (.bipush 19, 2) := by decide +kernel
theorem dX2_add_50 : decode cX2_add 50 = .ok (.if_icmp .ne 7, 3) := by decide +kernel
theorem dX2_add_53 : decode cX2_add 53 = .ok (.iconst 1, 1) := by decide +kernel
theorem dX2_add_54 : decode cX2_add 54 = .ok (.goto 4, 3) := by decide +kernel
theorem dX2_add_57 : decode cX2_add 57 = .ok (.iconst 0, 1) := by decide +kernel
theorem dX2_add_58 : decode cX2_add 58 = .ok (.putfield 38, 3) := by decide +kernel
theorem dX2_add_61 : decode cX2_add 61 = .ok (.return_, 1) := by decide +kernel
theorem dX2_isTold_0 : decode cX2_isTold 0 = .ok (.aload_n 0, 1) := by decide +kernel
theorem dX2_isTold_1 : decode cX2_isTold 1 = .ok (.getfield 21, 3) := by decide +kernel
theorem dX2_isTold_4 : decode cX2_isTold 4 = .ok (.iload_n 1, 1) := by decide +kernel
theorem dX2_isTold_5 : decode cX2_isTold 5 = .ok (.iaload, 1) := by decide +kernel
theorem dX2_isTold_6 : decode cX2_isTold 6 = .ok (.aload_n 0, 1) := by decide +kernel
theorem dX2_isTold_7 : decode cX2_isTold 7 = .ok (.getfield 18, 3) := by decide +kernel
theorem dX2_isTold_10 : decode cX2_isTold 10 = .ok (.iload_n 1, 1) := by decide +kernel
theorem dX2_isTold_11 : decode cX2_isTold 11 = .ok (.iaload, 1) := by decide +kernel
theorem dX2_isTold_12 : decode cX2_isTold 12 = .ok (.if_icmp .le 7, 3) := by decide +kernel
theorem dX2_isTold_15 : decode cX2_isTold 15 = .ok (.iconst 1, 1) := by decide +kernel
theorem dX2_isTold_16 : decode cX2_isTold 16 = .ok (.goto 4, 3) := by decide +kernel
theorem dX2_isTold_19 : decode cX2_isTold 19 = .ok (.iconst 0, 1) := by decide +kernel
theorem dX2_isTold_20 : decode cX2_isTold 20 = .ok (.ireturn, 1) := by decide +kernel
theorem dX2_mindsOthers_0 : decode cX2_mindsOthers 0 = .ok (.aload_n 0, 1) := by decide +kernel
theorem dX2_mindsOthers_1 : decode cX2_mindsOthers 1 = .ok (.getfield 38, 3) := by decide +kernel
theorem dX2_mindsOthers_4 : decode cX2_mindsOthers 4 = .ok (.ireturn, 1) := by decide +kernel
theorem dX2_workOut_0 : decode cX2_workOut 0 = .ok (.iconst 0, 1) := by decide +kernel
theorem dX2_workOut_1 : decode cX2_workOut 1 = .ok (.istore_n 2, 1) := by decide +kernel
theorem dX2_workOut_2 : decode cX2_workOut 2 = .ok (.aload_n 0, 1) := by decide +kernel
theorem dX2_workOut_3 : decode cX2_workOut 3 = .ok (.getfield 18, 3) := by decide +kernel
theorem dX2_workOut_6 : decode cX2_workOut 6 = .ok (.iload_n 1, 1) := by decide +kernel
theorem dX2_workOut_7 : decode cX2_workOut 7 = .ok (.iaload, 1) := by decide +kernel
theorem dX2_workOut_8 : decode cX2_workOut 8 = .ok (.istore_n 3, 1) := by decide +kernel
theorem dX2_workOut_9 : decode cX2_workOut 9 = .ok (.iload_n 3, 1) := by decide +kernel
theorem dX2_workOut_10 : decode cX2_workOut 10 = .ok (.aload_n 0, 1) := by decide +kernel
theorem dX2_workOut_11 : decode cX2_workOut 11 = .ok (.getfield 21, 3) := by decide +kernel
theorem dX2_workOut_14 : decode cX2_workOut 14 = .ok (.iload_n 1, 1) := by decide +kernel
theorem dX2_workOut_15 : decode cX2_workOut 15 = .ok (.iaload, 1) := by decide +kernel
theorem dX2_workOut_16 : decode cX2_workOut 16 = .ok (.if_icmp .ge 187, 3) := by decide +kernel
theorem dX2_workOut_19 : decode cX2_workOut 19 = .ok (.iload_n 2, 1) := by decide +kernel
theorem dX2_workOut_20 : decode cX2_workOut 20 = .ok (.bipush 64, 2) := by decide +kernel
theorem dX2_workOut_22 : decode cX2_workOut 22 = .ok (.if_icmp .ge 181, 3) := by decide +kernel
theorem dX2_workOut_25 : decode cX2_workOut 25 = .ok (.aload_n 0, 1) := by decide +kernel
theorem dX2_workOut_26 : decode cX2_workOut 26 = .ok (.getfield 9, 3) := by decide +kernel
theorem dX2_workOut_29 : decode cX2_workOut 29 = .ok (.iload_n 3, 1) := by decide +kernel
theorem dX2_workOut_30 : decode cX2_workOut 30 = .ok (.iaload, 1) := by decide +kernel
theorem dX2_workOut_31 : decode cX2_workOut 31 = .ok (.istore 4, 2) := by decide +kernel
theorem dX2_workOut_33 : decode cX2_workOut 33 = .ok (.iload 4, 2) := by decide +kernel
theorem dX2_workOut_35 : decode cX2_workOut 35 = .ok (.bipush 34, 2) := by decide +kernel
theorem dX2_workOut_37 : decode cX2_workOut 37 = .ok (.if_icmp .ne 22, 3) := by decide +kernel
theorem dX2_workOut_40 : decode cX2_workOut 40 = .ok (.aload_n 0, 1) := by decide +kernel
theorem dX2_workOut_41 : decode cX2_workOut 41 = .ok (.getfield 24, 3) := by decide +kernel
theorem dX2_workOut_44 : decode cX2_workOut 44 = .ok (.iload_n 2, 1) := by decide +kernel
theorem dX2_workOut_45 : decode cX2_workOut 45 = .ok (.aload_n 0, 1) := by decide +kernel
theorem dX2_workOut_46 : decode cX2_workOut 46 = .ok (.getfield 15, 3) := by decide +kernel
theorem dX2_workOut_49 : decode cX2_workOut 49 = .ok (.iload_n 3, 1) := by decide +kernel
theorem dX2_workOut_50 : decode cX2_workOut 50 = .ok (.iaload, 1) := by decide +kernel
theorem dX2_workOut_51 : decode cX2_workOut 51 = .ok (.i2l, 1) := by decide +kernel
theorem dX2_workOut_52 : decode cX2_workOut 52 = .ok (.lastore, 1) := by decide +kernel
theorem dX2_workOut_53 : decode cX2_workOut 53 = .ok (.iinc 2 1, 3) := by decide +kernel
theorem dX2_workOut_56 : decode cX2_workOut 56 = .ok (.goto 141, 3) := by decide +kernel
theorem dX2_workOut_59 : decode cX2_workOut 59 = .ok (.iload 4, 2) := by decide +kernel
theorem dX2_workOut_61 : decode cX2_workOut 61 = .ok (.bipush 14, 2) := by decide +kernel
theorem dX2_workOut_63 : decode cX2_workOut 63 = .ok (.bipush 20, 2) := by decide +kernel
theorem dX2_workOut_65 : decode cX2_workOut 65 = .ok (.invokestatic 50, 3) := by decide +kernel
theorem dX2_workOut_68 : decode cX2_workOut 68 = .ok (.ifCond .eq 25, 3) := by decide +kernel
theorem dX2_workOut_71 : decode cX2_workOut 71 = .ok (.aload_n 0, 1) := by decide +kernel
theorem dX2_workOut_72 : decode cX2_workOut 72 = .ok (.getfield 24, 3) := by decide +kernel
theorem dX2_workOut_75 : decode cX2_workOut 75 = .ok (.iload_n 2, 1) := by decide +kernel
theorem dX2_workOut_76 : decode cX2_workOut 76 = .ok (.aload_n 0, 1) := by decide +kernel
theorem dX2_workOut_77 : decode cX2_workOut 77 = .ok (.getfield 28, 3) := by decide +kernel
theorem dX2_workOut_80 : decode cX2_workOut 80 = .ok (.iload 4, 2) := by decide +kernel
theorem dX2_workOut_82 : decode cX2_workOut 82 = .ok (.bipush 14, 2) := by decide +kernel
theorem dX2_workOut_84 : decode cX2_workOut 84 = .ok (.isub, 1) := by decide +kernel
theorem dX2_workOut_85 : decode cX2_workOut 85 = .ok (.laload, 1) := by decide +kernel
theorem dX2_workOut_86 : decode cX2_workOut 86 = .ok (.lastore, 1) := by decide +kernel
theorem dX2_workOut_87 : decode cX2_workOut 87 = .ok (.iinc 2 1, 3) := by decide +kernel
theorem dX2_workOut_90 : decode cX2_workOut 90 = .ok (.goto 107, 3) := by decide +kernel
theorem dX2_workOut_93 : decode cX2_workOut 93 = .ok (.iload_n 2, 1) := by decide +kernel
theorem dX2_workOut_94 : decode cX2_workOut 94 = .ok (.ifCond .le 39, 3) := by decide +kernel
theorem dX2_workOut_97 : decode cX2_workOut 97 = .ok (.iload 4, 2) := by decide +kernel
theorem dX2_workOut_99 : decode cX2_workOut 99 = .ok (.bipush 13, 2) := by decide +kernel
theorem dX2_workOut_101 : decode cX2_workOut 101 = .ok (.if_icmp .ne 32, 3) := by decide +kernel
theorem dX2_workOut_104 : decode cX2_workOut 104 = .ok (.aload_n 0, 1) := by decide +kernel
theorem dX2_workOut_105 : decode cX2_workOut 105 = .ok (.getfield 24, 3) := by decide +kernel
theorem dX2_workOut_108 : decode cX2_workOut 108 = .ok (.iload_n 2, 1) := by decide +kernel
theorem dX2_workOut_109 : decode cX2_workOut 109 = .ok (.iconst 1, 1) := by decide +kernel
theorem dX2_workOut_110 : decode cX2_workOut 110 = .ok (.isub, 1) := by decide +kernel
theorem dX2_workOut_111 : decode cX2_workOut 111 = .ok (.aload_n 0, 1) := by decide +kernel
theorem dX2_workOut_112 : decode cX2_workOut 112 = .ok (.getfield 24, 3) := by decide +kernel
theorem dX2_workOut_115 : decode cX2_workOut 115 = .ok (.iload_n 2, 1) := by decide +kernel
theorem dX2_workOut_116 : decode cX2_workOut 116 = .ok (.iconst 1, 1) := by decide +kernel
theorem dX2_workOut_117 : decode cX2_workOut 117 = .ok (.isub, 1) := by decide +kernel
theorem dX2_workOut_118 : decode cX2_workOut 118 = .ok (.laload, 1) := by decide +kernel
theorem dX2_workOut_119 : decode cX2_workOut 119 = .ok (.lconst 0, 1) := by decide +kernel
theorem dX2_workOut_120 : decode cX2_workOut 120 = .ok (.lcmp, 1) := by decide +kernel
theorem dX2_workOut_121 : decode cX2_workOut 121 = .ok (.ifCond .ne 7, 3) := by decide +kernel
theorem dX2_workOut_124 : decode cX2_workOut 124 = .ok (.lconst 1, 1) := by decide +kernel
theorem dX2_workOut_125 : decode cX2_workOut 125 = .ok (.goto 4, 3) := by decide +kernel
theorem dX2_workOut_128 : decode cX2_workOut 128 = .ok (.lconst 0, 1) := by decide +kernel
theorem dX2_workOut_129 : decode cX2_workOut 129 = .ok (.lastore, 1) := by decide +kernel
theorem dX2_workOut_130 : decode cX2_workOut 130 = .ok (.goto 67, 3) := by decide +kernel
theorem dX2_workOut_133 : decode cX2_workOut 133 = .ok (.iload_n 2, 1) := by decide +kernel
theorem dX2_workOut_134 : decode cX2_workOut 134 = .ok (.iconst 1, 1) := by decide +kernel
theorem dX2_workOut_135 : decode cX2_workOut 135 = .ok (.if_icmp .le 60, 3) := by decide +kernel
theorem dX2_workOut_138 : decode cX2_workOut 138 = .ok (.iload 4, 2) := by decide +kernel
theorem dX2_workOut_140 : decode cX2_workOut 140 = .ok (.aload_n 0, 1) := by decide +kernel
theorem dX2_workOut_141 : decode cX2_workOut 141 = .ok (.getfield 24, 3) := by decide +kernel
theorem dX2_workOut_144 : decode cX2_workOut 144 = .ok (.iload_n 2, 1) := by decide +kernel
theorem dX2_workOut_145 : decode cX2_workOut 145 = .ok (.iconst 2, 1) := by decide +kernel
theorem dX2_workOut_146 : decode cX2_workOut 146 = .ok (.isub, 1) := by decide +kernel
theorem dX2_workOut_147 : decode cX2_workOut 147 = .ok (.laload, 1) := by decide +kernel
theorem dX2_workOut_148 : decode cX2_workOut 148 = .ok (.aload_n 0, 1) := by decide +kernel
theorem dX2_workOut_149 : decode cX2_workOut 149 = .ok (.getfield 24, 3) := by decide +kernel
theorem dX2_workOut_152 : decode cX2_workOut 152 = .ok (.iload_n 2, 1) := by decide +kernel
theorem dX2_workOut_153 : decode cX2_workOut 153 = .ok (.iconst 1, 1) := by decide +kernel
theorem dX2_workOut_154 : decode cX2_workOut 154 = .ok (.isub, 1) := by decide +kernel
theorem dX2_workOut_155 : decode cX2_workOut 155 = .ok (.laload, 1) := by decide +kernel
theorem dX2_workOut_156 : decode cX2_workOut 156 = .ok (.invokestatic 54, 3) := by decide +kernel
theorem dX2_workOut_159 : decode cX2_workOut 159 = .ok (.ifCond .eq 36, 3) := by decide +kernel
theorem dX2_workOut_162 : decode cX2_workOut 162 = .ok (.iinc 2 (-1), 3) := by decide +kernel
theorem dX2_workOut_165 : decode cX2_workOut 165 = .ok (.aload_n 0, 1) := by decide +kernel
theorem dX2_workOut_166 : decode cX2_workOut 166 = .ok (.getfield 24, 3) := by decide +kernel
theorem dX2_workOut_169 : decode cX2_workOut 169 = .ok (.iload_n 2, 1) := by decide +kernel
theorem dX2_workOut_170 : decode cX2_workOut 170 = .ok (.iconst 1, 1) := by decide +kernel
theorem dX2_workOut_171 : decode cX2_workOut 171 = .ok (.isub, 1) := by decide +kernel
theorem dX2_workOut_172 : decode cX2_workOut 172 = .ok (.iload 4, 2) := by decide +kernel
theorem dX2_workOut_174 : decode cX2_workOut 174 = .ok (.aload_n 0, 1) := by decide +kernel
theorem dX2_workOut_175 : decode cX2_workOut 175 = .ok (.getfield 24, 3) := by decide +kernel
theorem dX2_workOut_178 : decode cX2_workOut 178 = .ok (.iload_n 2, 1) := by decide +kernel
theorem dX2_workOut_179 : decode cX2_workOut 179 = .ok (.iconst 1, 1) := by decide +kernel
theorem dX2_workOut_180 : decode cX2_workOut 180 = .ok (.isub, 1) := by decide +kernel
theorem dX2_workOut_181 : decode cX2_workOut 181 = .ok (.laload, 1) := by decide +kernel
theorem dX2_workOut_182 : decode cX2_workOut 182 = .ok (.aload_n 0, 1) := by decide +kernel
theorem dX2_workOut_183 : decode cX2_workOut 183 = .ok (.getfield 24, 3) := by decide +kernel
theorem dX2_workOut_186 : decode cX2_workOut 186 = .ok (.iload_n 2, 1) := by decide +kernel
theorem dX2_workOut_187 : decode cX2_workOut 187 = .ok (.laload, 1) := by decide +kernel
theorem dX2_workOut_188 : decode cX2_workOut 188 = .ok (.invokestatic 58, 3) := by decide +kernel
theorem dX2_workOut_191 : decode cX2_workOut 191 = .ok (.lastore, 1) := by decide +kernel
theorem dX2_workOut_192 : decode cX2_workOut 192 = .ok (.goto 5, 3) := by decide +kernel
theorem dX2_workOut_195 : decode cX2_workOut 195 = .ok (.iconst 0, 1) := by decide +kernel
theorem dX2_workOut_196 : decode cX2_workOut 196 = .ok (.ireturn, 1) := by decide +kernel
theorem dX2_workOut_197 : decode cX2_workOut 197 = .ok (.iinc 3 1, 3) := by decide +kernel
theorem dX2_workOut_200 : decode cX2_workOut 200 = .ok (.goto (-191), 3) := by decide +kernel
theorem dX2_workOut_203 : decode cX2_workOut 203 = .ok (.aload_n 0, 1) := by decide +kernel
theorem dX2_workOut_204 : decode cX2_workOut 204 = .ok (.aload_n 0, 1) := by decide +kernel
theorem dX2_workOut_205 : decode cX2_workOut 205 = .ok (.getfield 24, 3) := by decide +kernel
theorem dX2_workOut_208 : decode cX2_workOut 208 = .ok (.iconst 0, 1) := by decide +kernel
theorem dX2_workOut_209 : decode cX2_workOut 209 = .ok (.laload, 1) := by decide +kernel
theorem dX2_workOut_210 : decode cX2_workOut 210 = .ok (.putfield 62, 3) := by decide +kernel
theorem dX2_workOut_213 : decode cX2_workOut 213 = .ok (.iload_n 2, 1) := by decide +kernel
theorem dX2_workOut_214 : decode cX2_workOut 214 = .ok (.iconst 1, 1) := by decide +kernel
theorem dX2_workOut_215 : decode cX2_workOut 215 = .ok (.if_icmp .ne 7, 3) := by decide +kernel
theorem dX2_workOut_218 : decode cX2_workOut 218 = .ok (.iconst 1, 1) := by decide +kernel
theorem dX2_workOut_219 : decode cX2_workOut 219 = .ok (.goto 4, 3) := by decide +kernel
theorem dX2_workOut_222 : decode cX2_workOut 222 = .ok (.iconst 0, 1) := by decide +kernel
theorem dX2_workOut_223 : decode cX2_workOut 223 = .ok (.ireturn, 1) := by decide +kernel
theorem dX2_isWorkable_0 : decode cX2_isWorkable 0 = .ok (.iload_n 0, 1) := by decide +kernel
theorem dX2_isWorkable_1 : decode cX2_isWorkable 1 = .ok (.tableswitch 146 27 30 #[31, 57, 83, 134], 31) := by decide +kernel
theorem dX2_isWorkable_32 : decode cX2_isWorkable 32 = .ok (.lload_n 1, 1) := by decide +kernel
theorem dX2_isWorkable_33 : decode cX2_isWorkable 33 = .ok (.lload_n 3, 1) := by decide +kernel
theorem dX2_isWorkable_34 : decode cX2_isWorkable 34 = .ok (.ladd, 1) := by decide +kernel
theorem dX2_isWorkable_35 : decode cX2_isWorkable 35 = .ok (.ldc2_w 66, 3) := by decide +kernel
theorem dX2_isWorkable_38 : decode cX2_isWorkable 38 = .ok (.lcmp, 1) := by decide +kernel
theorem dX2_isWorkable_39 : decode cX2_isWorkable 39 = .ok (.ifCond .gt 17, 3) := by decide +kernel
theorem dX2_isWorkable_42 : decode cX2_isWorkable 42 = .ok (.lload_n 1, 1) := by decide +kernel
theorem dX2_isWorkable_43 : decode cX2_isWorkable 43 = .ok (.lload_n 3, 1) := by decide +kernel
theorem dX2_isWorkable_44 : decode cX2_isWorkable 44 = .ok (.ladd, 1) := by decide +kernel
theorem dX2_isWorkable_45 : decode cX2_isWorkable 45 = .ok (.ldc2_w 68, 3) := by decide +kernel
theorem dX2_isWorkable_48 : decode cX2_isWorkable 48 = .ok (.lcmp, 1) := by decide +kernel
theorem dX2_isWorkable_49 : decode cX2_isWorkable 49 = .ok (.ifCond .lt 7, 3) := by decide +kernel
theorem dX2_isWorkable_52 : decode cX2_isWorkable 52 = .ok (.iconst 1, 1) := by decide +kernel
theorem dX2_isWorkable_53 : decode cX2_isWorkable 53 = .ok (.goto 4, 3) := by decide +kernel
theorem dX2_isWorkable_56 : decode cX2_isWorkable 56 = .ok (.iconst 0, 1) := by decide +kernel
theorem dX2_isWorkable_57 : decode cX2_isWorkable 57 = .ok (.ireturn, 1) := by decide +kernel
theorem dX2_isWorkable_58 : decode cX2_isWorkable 58 = .ok (.lload_n 1, 1) := by decide +kernel
theorem dX2_isWorkable_59 : decode cX2_isWorkable 59 = .ok (.lload_n 3, 1) := by decide +kernel
theorem dX2_isWorkable_60 : decode cX2_isWorkable 60 = .ok (.lsub, 1) := by decide +kernel
theorem dX2_isWorkable_61 : decode cX2_isWorkable 61 = .ok (.ldc2_w 66, 3) := by decide +kernel
theorem dX2_isWorkable_64 : decode cX2_isWorkable 64 = .ok (.lcmp, 1) := by decide +kernel
theorem dX2_isWorkable_65 : decode cX2_isWorkable 65 = .ok (.ifCond .gt 17, 3) := by decide +kernel
theorem dX2_isWorkable_68 : decode cX2_isWorkable 68 = .ok (.lload_n 1, 1) := by decide +kernel
theorem dX2_isWorkable_69 : decode cX2_isWorkable 69 = .ok (.lload_n 3, 1) := by decide +kernel
theorem dX2_isWorkable_70 : decode cX2_isWorkable 70 = .ok (.lsub, 1) := by decide +kernel
theorem dX2_isWorkable_71 : decode cX2_isWorkable 71 = .ok (.ldc2_w 68, 3) := by decide +kernel
theorem dX2_isWorkable_74 : decode cX2_isWorkable 74 = .ok (.lcmp, 1) := by decide +kernel
theorem dX2_isWorkable_75 : decode cX2_isWorkable 75 = .ok (.ifCond .lt 7, 3) := by decide +kernel
theorem dX2_isWorkable_78 : decode cX2_isWorkable 78 = .ok (.iconst 1, 1) := by decide +kernel
theorem dX2_isWorkable_79 : decode cX2_isWorkable 79 = .ok (.goto 4, 3) := by decide +kernel
theorem dX2_isWorkable_82 : decode cX2_isWorkable 82 = .ok (.iconst 0, 1) := by decide +kernel
theorem dX2_isWorkable_83 : decode cX2_isWorkable 83 = .ok (.ireturn, 1) := by decide +kernel
theorem dX2_isWorkable_84 : decode cX2_isWorkable 84 = .ok (.lload_n 1, 1) := by decide +kernel
theorem dX2_isWorkable_85 : decode cX2_isWorkable 85 = .ok (.lconst 0, 1) := by decide +kernel
theorem dX2_isWorkable_86 : decode cX2_isWorkable 86 = .ok (.lcmp, 1) := by decide +kernel
theorem dX2_isWorkable_87 : decode cX2_isWorkable 87 = .ok (.ifCond .ne 9, 3) := by decide +kernel
theorem dX2_isWorkable_90 : decode cX2_isWorkable 90 = .ok (.ldc2_w 66, 3) := by decide +kernel
theorem dX2_isWorkable_93 : decode cX2_isWorkable 93 = .ok (.goto 19, 3) := by decide +kernel
theorem dX2_isWorkable_96 : decode cX2_isWorkable 96 = .ok (.ldc2_w 66, 3) := by decide +kernel
theorem dX2_isWorkable_99 : decode cX2_isWorkable 99 = .ok (.lload_n 1, 1) := by decide +kernel
theorem dX2_isWorkable_100 : decode cX2_isWorkable 100 = .ok (.lconst 0, 1) := by decide +kernel
theorem dX2_isWorkable_101 : decode cX2_isWorkable 101 = .ok (.lcmp, 1) := by decide +kernel
theorem dX2_isWorkable_102 : decode cX2_isWorkable 102 = .ok (.ifCond .ge 8, 3) := by decide +kernel
theorem dX2_isWorkable_105 : decode cX2_isWorkable 105 = .ok (.lload_n 1, 1) := by decide +kernel
theorem dX2_isWorkable_106 : decode cX2_isWorkable 106 = .ok (.lneg, 1) := by decide +kernel
theorem dX2_isWorkable_107 : decode cX2_isWorkable 107 = .ok (.goto 4, 3) := by decide +kernel
theorem dX2_isWorkable_110 : decode cX2_isWorkable 110 = .ok (.lload_n 1, 1) := by decide +kernel
theorem dX2_isWorkable_111 : decode cX2_isWorkable 111 = .ok (.ldiv, 1) := by decide +kernel
theorem dX2_isWorkable_112 : decode cX2_isWorkable 112 = .ok (.lstore 5, 2) := by decide +kernel
theorem dX2_isWorkable_114 : decode cX2_isWorkable 114 = .ok (.lload_n 3, 1) := by decide +kernel
theorem dX2_isWorkable_115 : decode cX2_isWorkable 115 = .ok (.lload 5, 2) := by decide +kernel
theorem dX2_isWorkable_117 : decode cX2_isWorkable 117 = .ok (.lcmp, 1) := by decide +kernel
theorem dX2_isWorkable_118 : decode cX2_isWorkable 118 = .ok (.ifCond .gt 15, 3) := by decide +kernel
theorem dX2_isWorkable_121 : decode cX2_isWorkable 121 = .ok (.lload_n 3, 1) := by decide +kernel
theorem dX2_isWorkable_122 : decode cX2_isWorkable 122 = .ok (.lload 5, 2) := by decide +kernel
theorem dX2_isWorkable_124 : decode cX2_isWorkable 124 = .ok (.lneg, 1) := by decide +kernel
theorem dX2_isWorkable_125 : decode cX2_isWorkable 125 = .ok (.lcmp, 1) := by decide +kernel
theorem dX2_isWorkable_126 : decode cX2_isWorkable 126 = .ok (.ifCond .lt 7, 3) := by decide +kernel
theorem dX2_isWorkable_129 : decode cX2_isWorkable 129 = .ok (.iconst 1, 1) := by decide +kernel
theorem dX2_isWorkable_130 : decode cX2_isWorkable 130 = .ok (.goto 4, 3) := by decide +kernel
theorem dX2_isWorkable_133 : decode cX2_isWorkable 133 = .ok (.iconst 0, 1) := by decide +kernel
theorem dX2_isWorkable_134 : decode cX2_isWorkable 134 = .ok (.ireturn, 1) := by decide +kernel
theorem dX2_isWorkable_135 : decode cX2_isWorkable 135 = .ok (.lload_n 3, 1) := by decide +kernel
theorem dX2_isWorkable_136 : decode cX2_isWorkable 136 = .ok (.lconst 0, 1) := by decide +kernel
theorem dX2_isWorkable_137 : decode cX2_isWorkable 137 = .ok (.lcmp, 1) := by decide +kernel
theorem dX2_isWorkable_138 : decode cX2_isWorkable 138 = .ok (.ifCond .eq 7, 3) := by decide +kernel
theorem dX2_isWorkable_141 : decode cX2_isWorkable 141 = .ok (.iconst 1, 1) := by decide +kernel
theorem dX2_isWorkable_142 : decode cX2_isWorkable 142 = .ok (.goto 4, 3) := by decide +kernel
theorem dX2_isWorkable_145 : decode cX2_isWorkable 145 = .ok (.iconst 0, 1) := by decide +kernel
theorem dX2_isWorkable_146 : decode cX2_isWorkable 146 = .ok (.ireturn, 1) := by decide +kernel
theorem dX2_isWorkable_147 : decode cX2_isWorkable 147 = .ok (.iconst 1, 1) := by decide +kernel
theorem dX2_isWorkable_148 : decode cX2_isWorkable 148 = .ok (.ireturn, 1) := by decide +kernel
theorem dX2_joined_0 : decode cX2_joined 0 = .ok (.iload_n 0, 1) := by decide +kernel
theorem dX2_joined_1 : decode cX2_joined 1 = .ok (.tableswitch 207 12 30 #[189, 207, 207, 207, 207, 207, 207, 207, 207, 117, 129, 141, 153, 165, 177, 91, 95, 99, 103], 91) := by decide +kernel
theorem dX2_joined_92 : decode cX2_joined 92 = .ok (.lload_n 1, 1) := by decide +kernel
theorem dX2_joined_93 : decode cX2_joined 93 = .ok (.lload_n 3, 1) := by decide +kernel
theorem dX2_joined_94 : decode cX2_joined 94 = .ok (.ladd, 1) := by decide +kernel
theorem dX2_joined_95 : decode cX2_joined 95 = .ok (.lreturn, 1) := by decide +kernel
theorem dX2_joined_96 : decode cX2_joined 96 = .ok (.lload_n 1, 1) := by decide +kernel
theorem dX2_joined_97 : decode cX2_joined 97 = .ok (.lload_n 3, 1) := by decide +kernel
theorem dX2_joined_98 : decode cX2_joined 98 = .ok (.lsub, 1) := by decide +kernel
theorem dX2_joined_99 : decode cX2_joined 99 = .ok (.lreturn, 1) := by decide +kernel
theorem dX2_joined_100 : decode cX2_joined 100 = .ok (.lload_n 1, 1) := by decide +kernel
theorem dX2_joined_101 : decode cX2_joined 101 = .ok (.lload_n 3, 1) := by decide +kernel
theorem dX2_joined_102 : decode cX2_joined 102 = .ok (.lmul, 1) := by decide +kernel
theorem dX2_joined_103 : decode cX2_joined 103 = .ok (.lreturn, 1) := by decide +kernel
theorem dX2_joined_104 : decode cX2_joined 104 = .ok (.lload_n 3, 1) := by decide +kernel
theorem dX2_joined_105 : decode cX2_joined 105 = .ok (.lconst 0, 1) := by decide +kernel
theorem dX2_joined_106 : decode cX2_joined 106 = .ok (.lcmp, 1) := by decide +kernel
theorem dX2_joined_107 : decode cX2_joined 107 = .ok (.ifCond .ne 7, 3) := by decide +kernel
theorem dX2_joined_110 : decode cX2_joined 110 = .ok (.lconst 0, 1) := by decide +kernel
theorem dX2_joined_111 : decode cX2_joined 111 = .ok (.goto 6, 3) := by decide +kernel
theorem dX2_joined_114 : decode cX2_joined 114 = .ok (.lload_n 1, 1) := by decide +kernel
theorem dX2_joined_115 : decode cX2_joined 115 = .ok (.lload_n 3, 1) := by decide +kernel
theorem dX2_joined_116 : decode cX2_joined 116 = .ok (.ldiv, 1) := by decide +kernel
theorem dX2_joined_117 : decode cX2_joined 117 = .ok (.lreturn, 1) := by decide +kernel
theorem dX2_joined_118 : decode cX2_joined 118 = .ok (.lload_n 1, 1) := by decide +kernel
theorem dX2_joined_119 : decode cX2_joined 119 = .ok (.lload_n 3, 1) := by decide +kernel
theorem dX2_joined_120 : decode cX2_joined 120 = .ok (.lcmp, 1) := by decide +kernel
theorem dX2_joined_121 : decode cX2_joined 121 = .ok (.ifCond .ge 7, 3) := by decide +kernel
theorem dX2_joined_124 : decode cX2_joined 124 = .ok (.lconst 1, 1) := by decide +kernel
theorem dX2_joined_125 : decode cX2_joined 125 = .ok (.goto 4, 3) := by decide +kernel
theorem dX2_joined_128 : decode cX2_joined 128 = .ok (.lconst 0, 1) := by decide +kernel
theorem dX2_joined_129 : decode cX2_joined 129 = .ok (.lreturn, 1) := by decide +kernel
theorem dX2_joined_130 : decode cX2_joined 130 = .ok (.lload_n 1, 1) := by decide +kernel
theorem dX2_joined_131 : decode cX2_joined 131 = .ok (.lload_n 3, 1) := by decide +kernel
theorem dX2_joined_132 : decode cX2_joined 132 = .ok (.lcmp, 1) := by decide +kernel
theorem dX2_joined_133 : decode cX2_joined 133 = .ok (.ifCond .gt 7, 3) := by decide +kernel
theorem dX2_joined_136 : decode cX2_joined 136 = .ok (.lconst 1, 1) := by decide +kernel
theorem dX2_joined_137 : decode cX2_joined 137 = .ok (.goto 4, 3) := by decide +kernel
theorem dX2_joined_140 : decode cX2_joined 140 = .ok (.lconst 0, 1) := by decide +kernel
theorem dX2_joined_141 : decode cX2_joined 141 = .ok (.lreturn, 1) := by decide +kernel
theorem dX2_joined_142 : decode cX2_joined 142 = .ok (.lload_n 1, 1) := by decide +kernel
theorem dX2_joined_143 : decode cX2_joined 143 = .ok (.lload_n 3, 1) := by decide +kernel
theorem dX2_joined_144 : decode cX2_joined 144 = .ok (.lcmp, 1) := by decide +kernel
theorem dX2_joined_145 : decode cX2_joined 145 = .ok (.ifCond .ne 7, 3) := by decide +kernel
theorem dX2_joined_148 : decode cX2_joined 148 = .ok (.lconst 1, 1) := by decide +kernel
theorem dX2_joined_149 : decode cX2_joined 149 = .ok (.goto 4, 3) := by decide +kernel
theorem dX2_joined_152 : decode cX2_joined 152 = .ok (.lconst 0, 1) := by decide +kernel
theorem dX2_joined_153 : decode cX2_joined 153 = .ok (.lreturn, 1) := by decide +kernel
theorem dX2_joined_154 : decode cX2_joined 154 = .ok (.lload_n 1, 1) := by decide +kernel
theorem dX2_joined_155 : decode cX2_joined 155 = .ok (.lload_n 3, 1) := by decide +kernel
theorem dX2_joined_156 : decode cX2_joined 156 = .ok (.lcmp, 1) := by decide +kernel
theorem dX2_joined_157 : decode cX2_joined 157 = .ok (.ifCond .eq 7, 3) := by decide +kernel
theorem dX2_joined_160 : decode cX2_joined 160 = .ok (.lconst 1, 1) := by decide +kernel
theorem dX2_joined_161 : decode cX2_joined 161 = .ok (.goto 4, 3) := by decide +kernel
theorem dX2_joined_164 : decode cX2_joined 164 = .ok (.lconst 0, 1) := by decide +kernel
theorem dX2_joined_165 : decode cX2_joined 165 = .ok (.lreturn, 1) := by decide +kernel
theorem dX2_joined_166 : decode cX2_joined 166 = .ok (.lload_n 1, 1) := by decide +kernel
theorem dX2_joined_167 : decode cX2_joined 167 = .ok (.lload_n 3, 1) := by decide +kernel
theorem dX2_joined_168 : decode cX2_joined 168 = .ok (.lcmp, 1) := by decide +kernel
theorem dX2_joined_169 : decode cX2_joined 169 = .ok (.ifCond .lt 7, 3) := by decide +kernel
theorem dX2_joined_172 : decode cX2_joined 172 = .ok (.lconst 1, 1) := by decide +kernel
theorem dX2_joined_173 : decode cX2_joined 173 = .ok (.goto 4, 3) := by decide +kernel
theorem dX2_joined_176 : decode cX2_joined 176 = .ok (.lconst 0, 1) := by decide +kernel
theorem dX2_joined_177 : decode cX2_joined 177 = .ok (.lreturn, 1) := by decide +kernel
theorem dX2_joined_178 : decode cX2_joined 178 = .ok (.lload_n 1, 1) := by decide +kernel
theorem dX2_joined_179 : decode cX2_joined 179 = .ok (.lload_n 3, 1) := by decide +kernel
theorem dX2_joined_180 : decode cX2_joined 180 = .ok (.lcmp, 1) := by decide +kernel
theorem dX2_joined_181 : decode cX2_joined 181 = .ok (.ifCond .le 7, 3) := by decide +kernel
theorem dX2_joined_184 : decode cX2_joined 184 = .ok (.lconst 1, 1) := by decide +kernel
theorem dX2_joined_185 : decode cX2_joined 185 = .ok (.goto 4, 3) := by decide +kernel
theorem dX2_joined_188 : decode cX2_joined 188 = .ok (.lconst 0, 1) := by decide +kernel
theorem dX2_joined_189 : decode cX2_joined 189 = .ok (.lreturn, 1) := by decide +kernel
theorem dX2_joined_190 : decode cX2_joined 190 = .ok (.lload_n 1, 1) := by decide +kernel
theorem dX2_joined_191 : decode cX2_joined 191 = .ok (.lconst 0, 1) := by decide +kernel
theorem dX2_joined_192 : decode cX2_joined 192 = .ok (.lcmp, 1) := by decide +kernel
theorem dX2_joined_193 : decode cX2_joined 193 = .ok (.ifCond .eq 13, 3) := by decide +kernel
theorem dX2_joined_196 : decode cX2_joined 196 = .ok (.lload_n 3, 1) := by decide +kernel
theorem dX2_joined_197 : decode cX2_joined 197 = .ok (.lconst 0, 1) := by decide +kernel
theorem dX2_joined_198 : decode cX2_joined 198 = .ok (.lcmp, 1) := by decide +kernel
theorem dX2_joined_199 : decode cX2_joined 199 = .ok (.ifCond .eq 7, 3) := by decide +kernel
theorem dX2_joined_202 : decode cX2_joined 202 = .ok (.lconst 1, 1) := by decide +kernel
theorem dX2_joined_203 : decode cX2_joined 203 = .ok (.goto 4, 3) := by decide +kernel
theorem dX2_joined_206 : decode cX2_joined 206 = .ok (.lconst 0, 1) := by decide +kernel
theorem dX2_joined_207 : decode cX2_joined 207 = .ok (.lreturn, 1) := by decide +kernel
theorem dX2_joined_208 : decode cX2_joined 208 = .ok (.lload_n 1, 1) := by decide +kernel
theorem dX2_joined_209 : decode cX2_joined 209 = .ok (.lconst 0, 1) := by decide +kernel
theorem dX2_joined_210 : decode cX2_joined 210 = .ok (.lcmp, 1) := by decide +kernel
theorem dX2_joined_211 : decode cX2_joined 211 = .ok (.ifCond .ne 9, 3) := by decide +kernel
theorem dX2_joined_214 : decode cX2_joined 214 = .ok (.lload_n 3, 1) := by decide +kernel
theorem dX2_joined_215 : decode cX2_joined 215 = .ok (.lconst 0, 1) := by decide +kernel
theorem dX2_joined_216 : decode cX2_joined 216 = .ok (.lcmp, 1) := by decide +kernel
theorem dX2_joined_217 : decode cX2_joined 217 = .ok (.ifCond .eq 7, 3) := by decide +kernel
theorem dX2_joined_220 : decode cX2_joined 220 = .ok (.lconst 1, 1) := by decide +kernel
theorem dX2_joined_221 : decode cX2_joined 221 = .ok (.goto 4, 3) := by decide +kernel
theorem dX2_joined_224 : decode cX2_joined 224 = .ok (.lconst 0, 1) := by decide +kernel
theorem dX2_joined_225 : decode cX2_joined 225 = .ok (.lreturn, 1) := by decide +kernel
theorem dX3_init_0 : decode cX3_init 0 = .ok (.aload_n 0, 1) := by decide +kernel
theorem dX3_init_1 : decode cX3_init 1 = .ok (.invokespecial 3, 3) := by decide +kernel
theorem dX3_init_4 : decode cX3_init 4 = .ok (.aload_n 0, 1) := by decide +kernel
theorem dX3_init_5 : decode cX3_init 5 = .ok (.bipush 24, 2) := by decide +kernel
theorem dX3_init_7 : decode cX3_init 7 = .ok (.newarray .int, 2) := by decide +kernel
theorem dX3_init_9 : decode cX3_init 9 = .ok (.putfield 9, 3) := by decide +kernel
theorem dX3_init_12 : decode cX3_init 12 = .ok (.aload_n 0, 1) := by decide +kernel
theorem dX3_init_13 : decode cX3_init 13 = .ok (.bipush 24, 2) := by decide +kernel
theorem dX3_init_15 : decode cX3_init 15 = .ok (.newarray .int, 2) := by decide +kernel
theorem dX3_init_17 : decode cX3_init 17 = .ok (.putfield 15, 3) := by decide +kernel
theorem dX3_init_20 : decode cX3_init 20 = .ok (.aload_n 0, 1) := by decide +kernel
theorem dX3_init_21 : decode cX3_init 21 = .ok (.bipush 24, 2) := by decide +kernel
theorem dX3_init_23 : decode cX3_init 23 = .ok (.newarray .int, 2) := by decide +kernel
theorem dX3_init_25 : decode cX3_init 25 = .ok (.putfield 18, 3) := by decide +kernel
theorem dX3_init_28 : decode cX3_init 28 = .ok (.aload_n 0, 1) := by decide +kernel
theorem dX3_init_29 : decode cX3_init 29 = .ok (.bipush 24, 2) := by decide +kernel
theorem dX3_init_31 : decode cX3_init 31 = .ok (.newarray .boolean, 2) := by decide +kernel
theorem dX3_init_33 : decode cX3_init 33 = .ok (.putfield 21, 3) := by decide +kernel
theorem dX3_init_36 : decode cX3_init 36 = .ok (.aload_n 0, 1) := by decide +kernel
theorem dX3_init_37 : decode cX3_init 37 = .ok (.bipush 24, 2) := by decide +kernel
theorem dX3_init_39 : decode cX3_init 39 = .ok (.newarray .int, 2) := by decide +kernel
theorem dX3_init_41 : decode cX3_init 41 = .ok (.putfield 25, 3) := by decide +kernel
theorem dX3_init_44 : decode cX3_init 44 = .ok (.aload_n 0, 1) := by decide +kernel
theorem dX3_init_45 : decode cX3_init 45 = .ok (.bipush 24, 2) := by decide +kernel
theorem dX3_init_47 : decode cX3_init 47 = .ok (.newarray .boolean, 2) := by decide +kernel
theorem dX3_init_49 : decode cX3_init 49 = .ok (.putfield 28, 3) := by decide +kernel
theorem dX3_init_52 : decode cX3_init 52 = .ok (.aload_n 0, 1) := by decide +kernel
theorem dX3_init_53 : decode cX3_init 53 = .ok (.iconst (-1), 1) := by decide +kernel
theorem dX3_init_54 : decode cX3_init 54 = .ok (.putfield 31, 3) := by decide +kernel
theorem dX3_init_57 : decode cX3_init 57 = .ok (.return_, 1) := by decide +kernel
theorem dX3_clear_0 : decode cX3_clear 0 = .ok (.aload_n 0, 1) := by decide +kernel
theorem dX3_clear_1 : decode cX3_clear 1 = .ok (.iconst 0, 1) := by decide +kernel
theorem dX3_clear_2 : decode cX3_clear 2 = .ok (.putfield 35, 3) := by decide +kernel
theorem dX3_clear_5 : decode cX3_clear 5 = .ok (.aload_n 0, 1) := by decide +kernel
theorem dX3_clear_6 : decode cX3_clear 6 = .ok (.iconst (-1), 1) := by decide +kernel
theorem dX3_clear_7 : decode cX3_clear 7 = .ok (.putfield 31, 3) := by decide +kernel
theorem dX3_clear_10 : decode cX3_clear 10 = .ok (.return_, 1) := by decide +kernel
theorem dX3_firstKnown_0 : decode cX3_firstKnown 0 = .ok (.aload_n 0, 1) := by decide +kernel
theorem dX3_firstKnown_1 : decode cX3_firstKnown 1 = .ok (.getfield 31, 3) := by decide +kernel
theorem dX3_firstKnown_4 : decode cX3_firstKnown 4 = .ok (.iconst (-1), 1) := by decide +kernel
theorem dX3_firstKnown_5 : decode cX3_firstKnown 5 = .ok (.if_icmp .ne 10, 3) := by decide +kernel
theorem dX3_firstKnown_8 : decode cX3_firstKnown 8 = .ok (.aload_n 0, 1) := by decide +kernel
theorem dX3_firstKnown_9 : decode cX3_firstKnown 9 = .ok (.getfield 35, 3) := by decide +kernel
theorem dX3_firstKnown_12 : decode cX3_firstKnown 12 = .ok (.goto 7, 3) := by decide +kernel
theorem dX3_firstKnown_15 : decode cX3_firstKnown 15 = .ok (.aload_n 0, 1) := by decide +kernel
theorem dX3_firstKnown_16 : decode cX3_firstKnown 16 = .ok (.getfield 31, 3) := by decide +kernel
theorem dX3_firstKnown_19 : decode cX3_firstKnown 19 = .ok (.ireturn, 1) := by decide +kernel
theorem dX3_add_0 : decode cX3_add 0 = .ok (.aload_n 0, 1) := by decide +kernel
theorem dX3_add_1 : decode cX3_add 1 = .ok (.getfield 35, 3) := by decide +kernel
theorem dX3_add_4 : decode cX3_add 4 = .ok (.bipush 24, 2) := by decide +kernel
theorem dX3_add_6 : decode cX3_add 6 = .ok (.if_icmp .lt 5, 3) := by decide +kernel
theorem dX3_add_9 : decode cX3_add 9 = .ok (.iconst (-1), 1) := by decide +kernel
theorem dX3_add_10 : decode cX3_add 10 = .ok (.ireturn, 1) := by decide +kernel
theorem dX3_add_11 : decode cX3_add 11 = .ok (.aload_n 0, 1) := by decide +kernel
theorem dX3_add_12 : decode cX3_add 12 = .ok (.getfield 9, 3) := by decide +kernel
theorem dX3_add_15 : decode cX3_add 15 = .ok (.aload_n 0, 1) := by decide +kernel
theorem dX3_add_16 : decode cX3_add 16 = .ok (.getfield 35, 3) := by decide +kernel
theorem dX3_add_19 : decode cX3_add 19 = .ok (.iload_n 1, 1) := by decide +kernel
theorem dX3_add_20 : decode cX3_add 20 = .ok (.iastore, 1) := by decide +kernel
theorem dX3_add_21 : decode cX3_add 21 = .ok (.aload_n 0, 1) := by decide +kernel
theorem dX3_add_22 : decode cX3_add 22 = .ok (.getfield 15, 3) := by decide +kernel
theorem dX3_add_25 : decode cX3_add 25 = .ok (.aload_n 0, 1) := by decide +kernel
theorem dX3_add_26 : decode cX3_add 26 = .ok (.getfield 35, 3) := by decide +kernel
theorem dX3_add_29 : decode cX3_add 29 = .ok (.iload_n 2, 1) := by decide +kernel
theorem dX3_add_30 : decode cX3_add 30 = .ok (.iastore, 1) := by decide +kernel
theorem dX3_add_31 : decode cX3_add 31 = .ok (.aload_n 0, 1) := by decide +kernel
theorem dX3_add_32 : decode cX3_add 32 = .ok (.getfield 18, 3) := by decide +kernel
theorem dX3_add_35 : decode cX3_add 35 = .ok (.aload_n 0, 1) := by decide +kernel
theorem dX3_add_36 : decode cX3_add 36 = .ok (.getfield 35, 3) := by decide +kernel
theorem dX3_add_39 : decode cX3_add 39 = .ok (.iload_n 3, 1) := by decide +kernel
theorem dX3_add_40 : decode cX3_add 40 = .ok (.iastore, 1) := by decide +kernel
theorem dX3_add_41 : decode cX3_add 41 = .ok (.aload_n 0, 1) := by decide +kernel
theorem dX3_add_42 : decode cX3_add 42 = .ok (.getfield 21, 3) := by decide +kernel
theorem dX3_add_45 : decode cX3_add 45 = .ok (.aload_n 0, 1) := by decide +kernel
theorem dX3_add_46 : decode cX3_add 46 = .ok (.getfield 35, 3) := by decide +kernel
theorem dX3_add_49 : decode cX3_add 49 = .ok (.iload 4, 2) := by decide +kernel
theorem dX3_add_51 : decode cX3_add 51 = .ok (.bastore, 1) := by decide +kernel
theorem dX3_add_52 : decode cX3_add 52 = .ok (.aload_n 0, 1) := by decide +kernel
theorem dX3_add_53 : decode cX3_add 53 = .ok (.getfield 25, 3) := by decide +kernel
theorem dX3_add_56 : decode cX3_add 56 = .ok (.aload_n 0, 1) := by decide +kernel
theorem dX3_add_57 : decode cX3_add 57 = .ok (.getfield 35, 3) := by decide +kernel
theorem dX3_add_60 : decode cX3_add 60 = .ok (.iconst (-1), 1) := by decide +kernel
theorem dX3_add_61 : decode cX3_add 61 = .ok (.iastore, 1) := by decide +kernel
theorem dX3_add_62 : decode cX3_add 62 = .ok (.aload_n 0, 1) := by decide +kernel
theorem dX3_add_63 : decode cX3_add 63 = .ok (.dup, 1) := by decide +kernel
theorem dX3_add_64 : decode cX3_add 64 = .ok (.getfield 35, 3) := by decide +kernel
theorem dX3_add_67 : decode cX3_add 67 = .ok (.iconst 1, 1) := by decide +kernel
theorem dX3_add_68 : decode cX3_add 68 = .ok (.iadd, 1) := by decide +kernel
theorem dX3_add_69 : decode cX3_add 69 = .ok (.putfield 35, 3) := by decide +kernel
theorem dX3_add_72 : decode cX3_add 72 = .ok (.aload_n 0, 1) := by decide +kernel
theorem dX3_add_73 : decode cX3_add 73 = .ok (.getfield 35, 3) := by decide +kernel
theorem dX3_add_76 : decode cX3_add 76 = .ok (.iconst 1, 1) := by decide +kernel
theorem dX3_add_77 : decode cX3_add 77 = .ok (.isub, 1) := by decide +kernel
theorem dX3_add_78 : decode cX3_add 78 = .ok (.ireturn, 1) := by decide +kernel
theorem dX3_addStrike_0 : decode cX3_addStrike 0 = .ok (.aload_n 0, 1) := by decide +kernel
theorem dX3_addStrike_1 : decode cX3_addStrike 1 = .ok (.iconst 0, 1) := by decide +kernel
theorem dX3_addStrike_2 : decode cX3_addStrike 2 = .ok (.iconst 0, 1) := by decide +kernel
theorem dX3_addStrike_3 : decode cX3_addStrike 3 = .ok (.iconst 0, 1) := by decide +kernel
theorem dX3_addStrike_4 : decode cX3_addStrike 4 = .ok (.iconst 0, 1) := by decide +kernel
theorem dX3_addStrike_5 : decode cX3_addStrike 5 = .ok (.invokevirtual 38, 3) := by decide +kernel
theorem dX3_addStrike_8 : decode cX3_addStrike 8 = .ok (.istore_n 2, 1) := by decide +kernel
theorem dX3_addStrike_9 : decode cX3_addStrike 9 = .ok (.iload_n 2, 1) := by decide +kernel
theorem dX3_addStrike_10 : decode cX3_addStrike 10 = .ok (.iconst (-1), 1) := by decide +kernel
theorem dX3_addStrike_11 : decode cX3_addStrike 11 = .ok (.if_icmp .eq 10, 3) := by decide +kernel
theorem dX3_addStrike_14 : decode cX3_addStrike 14 = .ok (.aload_n 0, 1) := by decide +kernel
theorem dX3_addStrike_15 : decode cX3_addStrike 15 = .ok (.getfield 25, 3) := by decide +kernel
theorem dX3_addStrike_18 : decode cX3_addStrike 18 = .ok (.iload_n 2, 1) := by decide +kernel
theorem dX3_addStrike_19 : decode cX3_addStrike 19 = .ok (.iload_n 1, 1) := by decide +kernel
theorem dX3_addStrike_20 : decode cX3_addStrike 20 = .ok (.iastore, 1) := by decide +kernel
theorem dX3_addStrike_21 : decode cX3_addStrike 21 = .ok (.iload_n 2, 1) := by decide +kernel
theorem dX3_addStrike_22 : decode cX3_addStrike 22 = .ok (.ireturn, 1) := by decide +kernel
theorem dX3_findStruck_0 : decode cX3_findStruck 0 = .ok (.iconst 0, 1) := by decide +kernel
theorem dX3_findStruck_1 : decode cX3_findStruck 1 = .ok (.istore_n 1, 1) := by decide +kernel
theorem dX3_findStruck_2 : decode cX3_findStruck 2 = .ok (.iload_n 1, 1) := by decide +kernel
theorem dX3_findStruck_3 : decode cX3_findStruck 3 = .ok (.bipush 24, 2) := by decide +kernel
theorem dX3_findStruck_5 : decode cX3_findStruck 5 = .ok (.if_icmp .ge 16, 3) := by decide +kernel
theorem dX3_findStruck_8 : decode cX3_findStruck 8 = .ok (.aload_n 0, 1) := by decide +kernel
theorem dX3_findStruck_9 : decode cX3_findStruck 9 = .ok (.getfield 28, 3) := by decide +kernel
theorem dX3_findStruck_12 : decode cX3_findStruck 12 = .ok (.iload_n 1, 1) := by decide +kernel
theorem dX3_findStruck_13 : decode cX3_findStruck 13 = .ok (.iconst 0, 1) := by decide +kernel
theorem dX3_findStruck_14 : decode cX3_findStruck 14 = .ok (.bastore, 1) := by decide +kernel
theorem dX3_findStruck_15 : decode cX3_findStruck 15 = .ok (.iinc 1 1, 3) := by decide +kernel
theorem dX3_findStruck_18 : decode cX3_findStruck 18 = .ok (.goto (-16), 3) := by decide +kernel
theorem dX3_findStruck_21 : decode cX3_findStruck 21 = .ok (.aload_n 0, 1) := by decide +kernel
theorem dX3_findStruck_22 : decode cX3_findStruck 22 = .ok (.invokevirtual 42, 3) := by decide +kernel
theorem dX3_findStruck_25 : decode cX3_findStruck 25 = .ok (.iconst 1, 1) := by decide +kernel
theorem dX3_findStruck_26 : decode cX3_findStruck 26 = .ok (.isub, 1) := by decide +kernel
theorem dX3_findStruck_27 : decode cX3_findStruck 27 = .ok (.istore_n 1, 1) := by decide +kernel
theorem dX3_findStruck_28 : decode cX3_findStruck 28 = .ok (.iload_n 1, 1) := by decide +kernel
theorem dX3_findStruck_29 : decode cX3_findStruck 29 = .ok (.ifCond .lt 40, 3) := by decide +kernel
theorem dX3_findStruck_32 : decode cX3_findStruck 32 = .ok (.aload_n 0, 1) := by decide +kernel
theorem dX3_findStruck_33 : decode cX3_findStruck 33 = .ok (.getfield 28, 3) := by decide +kernel
theorem dX3_findStruck_36 : decode cX3_findStruck 36 = .ok (.iload_n 1, 1) := by decide +kernel
theorem dX3_findStruck_37 : decode cX3_findStruck 37 = .ok (.baload, 1) := by decide +kernel
theorem dX3_findStruck_38 : decode cX3_findStruck 38 = .ok (.ifCond .ne 25, 3) := by decide +kernel
theorem dX3_findStruck_41 : decode cX3_findStruck 41 = .ok (.aload_n 0, 1) := by decide +kernel
theorem dX3_findStruck_42 : decode cX3_findStruck 42 = .ok (.getfield 25, 3) := by decide +kernel
theorem dX3_findStruck_45 : decode cX3_findStruck 45 = .ok (.iload_n 1, 1) := by decide +kernel
theorem dX3_findStruck_46 : decode cX3_findStruck 46 = .ok (.iaload, 1) := by decide +kernel
theorem dX3_findStruck_47 : decode cX3_findStruck 47 = .ok (.iconst (-1), 1) := by decide +kernel
theorem dX3_findStruck_48 : decode cX3_findStruck 48 = .ok (.if_icmp .eq 15, 3) := by decide +kernel
theorem dX3_findStruck_51 : decode cX3_findStruck 51 = .ok (.aload_n 0, 1) := by decide +kernel
theorem dX3_findStruck_52 : decode cX3_findStruck 52 = .ok (.getfield 28, 3) := by decide +kernel
theorem dX3_findStruck_55 : decode cX3_findStruck 55 = .ok (.aload_n 0, 1) := by decide +kernel
theorem dX3_findStruck_56 : decode cX3_findStruck 56 = .ok (.getfield 25, 3) := by decide +kernel
theorem dX3_findStruck_59 : decode cX3_findStruck 59 = .ok (.iload_n 1, 1) := by decide +kernel
theorem dX3_findStruck_60 : decode cX3_findStruck 60 = .ok (.iaload, 1) := by decide +kernel
theorem dX3_findStruck_61 : decode cX3_findStruck 61 = .ok (.iconst 1, 1) := by decide +kernel
theorem dX3_findStruck_62 : decode cX3_findStruck 62 = .ok (.bastore, 1) := by decide +kernel
theorem dX3_findStruck_63 : decode cX3_findStruck 63 = .ok (.iinc 1 (-1), 3) := by decide +kernel
theorem dX3_findStruck_66 : decode cX3_findStruck 66 = .ok (.goto (-38), 3) := by decide +kernel
theorem dX3_findStruck_69 : decode cX3_findStruck 69 = .ok (.return_, 1) := by decide +kernel
theorem dX3_isKnown_0 : decode cX3_isKnown 0 = .ok (.aload_n 0, 1) := by decide +kernel
theorem dX3_isKnown_1 : decode cX3_isKnown 1 = .ok (.getfield 25, 3) := by decide +kernel
theorem dX3_isKnown_4 : decode cX3_isKnown 4 = .ok (.iload_n 1, 1) := by decide +kernel
theorem dX3_isKnown_5 : decode cX3_isKnown 5 = .ok (.iaload, 1) := by decide +kernel
theorem dX3_isKnown_6 : decode cX3_isKnown 6 = .ok (.iconst (-1), 1) := by decide +kernel
theorem dX3_isKnown_7 : decode cX3_isKnown 7 = .ok (.if_icmp .ne 16, 3) := by decide +kernel
theorem dX3_isKnown_10 : decode cX3_isKnown 10 = .ok (.aload_n 0, 1) := by decide +kernel
theorem dX3_isKnown_11 : decode cX3_isKnown 11 = .ok (.getfield 28, 3) := by decide +kernel
theorem dX3_isKnown_14 : decode cX3_isKnown 14 = .ok (.iload_n 1, 1) := by decide +kernel
theorem dX3_isKnown_15 : decode cX3_isKnown 15 = .ok (.baload, 1) := by decide +kernel
theorem dX3_isKnown_16 : decode cX3_isKnown 16 = .ok (.ifCond .ne 7, 3) := by decide +kernel
theorem dX3_isKnown_19 : decode cX3_isKnown 19 = .ok (.iconst 1, 1) := by decide +kernel
theorem dX3_isKnown_20 : decode cX3_isKnown 20 = .ok (.goto 4, 3) := by decide +kernel
theorem dX3_isKnown_23 : decode cX3_isKnown 23 = .ok (.iconst 0, 1) := by decide +kernel
theorem dX3_isKnown_24 : decode cX3_isKnown 24 = .ok (.ireturn, 1) := by decide +kernel
theorem dX3_lastDay_0 : decode cX3_lastDay 0 = .ok (.iconst 0, 1) := by decide +kernel
theorem dX3_lastDay_1 : decode cX3_lastDay 1 = .ok (.istore_n 1, 1) := by decide +kernel
theorem dX3_lastDay_2 : decode cX3_lastDay 2 = .ok (.iconst 0, 1) := by decide +kernel
theorem dX3_lastDay_3 : decode cX3_lastDay 3 = .ok (.istore_n 2, 1) := by decide +kernel
theorem dX3_lastDay_4 : decode cX3_lastDay 4 = .ok (.iload_n 2, 1) := by decide +kernel
theorem dX3_lastDay_5 : decode cX3_lastDay 5 = .ok (.aload_n 0, 1) := by decide +kernel
theorem dX3_lastDay_6 : decode cX3_lastDay 6 = .ok (.invokevirtual 42, 3) := by decide +kernel
theorem dX3_lastDay_9 : decode cX3_lastDay 9 = .ok (.if_icmp .ge 28, 3) := by decide +kernel
theorem dX3_lastDay_12 : decode cX3_lastDay 12 = .ok (.aload_n 0, 1) := by decide +kernel
theorem dX3_lastDay_13 : decode cX3_lastDay 13 = .ok (.iload_n 2, 1) := by decide +kernel
theorem dX3_lastDay_14 : decode cX3_lastDay 14 = .ok (.invokevirtual 46, 3) := by decide +kernel
theorem dX3_lastDay_17 : decode cX3_lastDay 17 = .ok (.ifCond .eq 14, 3) := by decide +kernel
theorem dX3_lastDay_20 : decode cX3_lastDay 20 = .ok (.iload_n 1, 1) := by decide +kernel
theorem dX3_lastDay_21 : decode cX3_lastDay 21 = .ok (.aload_n 0, 1) := by decide +kernel
theorem dX3_lastDay_22 : decode cX3_lastDay 22 = .ok (.getfield 9, 3) := by decide +kernel
theorem dX3_lastDay_25 : decode cX3_lastDay 25 = .ok (.iload_n 2, 1) := by decide +kernel
theorem dX3_lastDay_26 : decode cX3_lastDay 26 = .ok (.iaload, 1) := by decide +kernel
theorem dX3_lastDay_27 : decode cX3_lastDay 27 = .ok (.invokestatic 50, 3) := by decide +kernel
theorem dX3_lastDay_30 : decode cX3_lastDay 30 = .ok (.istore_n 1, 1) := by decide +kernel
theorem dX3_lastDay_31 : decode cX3_lastDay 31 = .ok (.iinc 2 1, 3) := by decide +kernel
theorem dX3_lastDay_34 : decode cX3_lastDay 34 = .ok (.goto (-30), 3) := by decide +kernel
theorem dX3_lastDay_37 : decode cX3_lastDay 37 = .ok (.iload_n 1, 1) := by decide +kernel
theorem dX3_lastDay_38 : decode cX3_lastDay 38 = .ok (.ireturn, 1) := by decide +kernel
theorem dX3_agree_0 : decode cX3_agree 0 = .ok (.iconst 0, 1) := by decide +kernel
theorem dX3_agree_1 : decode cX3_agree 1 = .ok (.istore_n 3, 1) := by decide +kernel
theorem dX3_agree_2 : decode cX3_agree 2 = .ok (.iload_n 3, 1) := by decide +kernel
theorem dX3_agree_3 : decode cX3_agree 3 = .ok (.aload_n 0, 1) := by decide +kernel
theorem dX3_agree_4 : decode cX3_agree 4 = .ok (.invokevirtual 42, 3) := by decide +kernel
theorem dX3_agree_7 : decode cX3_agree 7 = .ok (.if_icmp .ge 66, 3) := by decide +kernel
theorem dX3_agree_10 : decode cX3_agree 10 = .ok (.aload_n 0, 1) := by decide +kernel
theorem dX3_agree_11 : decode cX3_agree 11 = .ok (.iload_n 3, 1) := by decide +kernel
theorem dX3_agree_12 : decode cX3_agree 12 = .ok (.invokevirtual 46, 3) := by decide +kernel
theorem dX3_agree_15 : decode cX3_agree 15 = .ok (.ifCond .eq 52, 3) := by decide +kernel
theorem dX3_agree_18 : decode cX3_agree 18 = .ok (.aload_n 0, 1) := by decide +kernel
theorem dX3_agree_19 : decode cX3_agree 19 = .ok (.getfield 9, 3) := by decide +kernel
theorem dX3_agree_22 : decode cX3_agree 22 = .ok (.iload_n 3, 1) := by decide +kernel
theorem dX3_agree_23 : decode cX3_agree 23 = .ok (.iaload, 1) := by decide +kernel
theorem dX3_agree_24 : decode cX3_agree 24 = .ok (.iload_n 1, 1) := by decide +kernel
theorem dX3_agree_25 : decode cX3_agree 25 = .ok (.if_icmp .ne 42, 3) := by decide +kernel
theorem dX3_agree_28 : decode cX3_agree 28 = .ok (.aload_n 2, 1) := by decide +kernel
theorem dX3_agree_29 : decode cX3_agree 29 = .ok (.getfield 56, 3) := by decide +kernel
theorem dX3_agree_32 : decode cX3_agree 32 = .ok (.aload_n 0, 1) := by decide +kernel
theorem dX3_agree_33 : decode cX3_agree 33 = .ok (.getfield 15, 3) := by decide +kernel
theorem dX3_agree_36 : decode cX3_agree 36 = .ok (.iload_n 3, 1) := by decide +kernel
theorem dX3_agree_37 : decode cX3_agree 37 = .ok (.iaload, 1) := by decide +kernel
theorem dX3_agree_38 : decode cX3_agree 38 = .ok (.aaload, 1) := by decide +kernel
theorem dX3_agree_39 : decode cX3_agree 39 = .ok (.getfield 62, 3) := by decide +kernel
theorem dX3_agree_42 : decode cX3_agree 42 = .ok (.aload_n 0, 1) := by decide +kernel
theorem dX3_agree_43 : decode cX3_agree 43 = .ok (.getfield 18, 3) := by decide +kernel
theorem dX3_agree_46 : decode cX3_agree 46 = .ok (.iload_n 3, 1) := by decide +kernel
theorem dX3_agree_47 : decode cX3_agree 47 = .ok (.iaload, 1) := by decide +kernel
theorem dX3_agree_48 : decode cX3_agree 48 = .ok (.if_icmp .lt 7, 3) := by decide +kernel
theorem dX3_agree_51 : decode cX3_agree 51 = .ok (.iconst 1, 1) := by decide +kernel
theorem dX3_agree_52 : decode cX3_agree 52 = .ok (.goto 4, 3) := by decide +kernel
theorem dX3_agree_55 : decode cX3_agree 55 = .ok (.iconst 0, 1) := by decide +kernel
theorem dX3_agree_56 : decode cX3_agree 56 = .ok (.aload_n 0, 1) := by decide +kernel
theorem dX3_agree_57 : decode cX3_agree 57 = .ok (.getfield 21, 3) := by decide +kernel
theorem dX3_agree_60 : decode cX3_agree 60 = .ok (.iload_n 3, 1) := by decide +kernel
theorem dX3_agree_61 : decode cX3_agree 61 = .ok (.baload, 1) := by decide +kernel
theorem dX3_agree_62 : decode cX3_agree 62 = .ok (.if_icmp .eq 5, 3) := by decide +kernel
theorem dX3_agree_65 : decode cX3_agree 65 = .ok (.iconst 0, 1) := by decide +kernel
theorem dX3_agree_66 : decode cX3_agree 66 = .ok (.ireturn, 1) := by decide +kernel
theorem dX3_agree_67 : decode cX3_agree 67 = .ok (.iinc 3 1, 3) := by decide +kernel
theorem dX3_agree_70 : decode cX3_agree 70 = .ok (.goto (-68), 3) := by decide +kernel
theorem dX3_agree_73 : decode cX3_agree 73 = .ok (.iconst 1, 1) := by decide +kernel
theorem dX3_agree_74 : decode cX3_agree 74 = .ok (.ireturn, 1) := by decide +kernel
theorem dX4_init_0 : decode cX4_init 0 = .ok (.aload_n 0, 1) := by decide +kernel
theorem dX4_init_1 : decode cX4_init 1 = .ok (.invokespecial 3, 3) := by decide +kernel
theorem dX4_init_4 : decode cX4_init 4 = .ok (.aload_n 0, 1) := by decide +kernel
theorem dX4_init_5 : decode cX4_init 5 = .ok (.bipush 6, 2) := by decide +kernel
theorem dX4_init_7 : decode cX4_init 7 = .ok (.newarray .int, 2) := by decide +kernel
theorem dX4_init_9 : decode cX4_init 9 = .ok (.putfield 9, 3) := by decide +kernel
theorem dX4_init_12 : decode cX4_init 12 = .ok (.return_, 1) := by decide +kernel
theorem dX4_start_0 : decode cX4_start 0 = .ok (.aload_n 0, 1) := by decide +kernel
theorem dX4_start_1 : decode cX4_start 1 = .ok (.aload_n 1, 1) := by decide +kernel
theorem dX4_start_2 : decode cX4_start 2 = .ok (.getfield 15, 3) := by decide +kernel
theorem dX4_start_5 : decode cX4_start 5 = .ok (.iload_n 2, 1) := by decide +kernel
theorem dX4_start_6 : decode cX4_start 6 = .ok (.iaload, 1) := by decide +kernel
theorem dX4_start_7 : decode cX4_start 7 = .ok (.putfield 20, 3) := by decide +kernel
theorem dX4_start_10 : decode cX4_start 10 = .ok (.aload_n 0, 1) := by decide +kernel
theorem dX4_start_11 : decode cX4_start 11 = .ok (.aload_n 1, 1) := by decide +kernel
theorem dX4_start_12 : decode cX4_start 12 = .ok (.getfield 23, 3) := by decide +kernel
theorem dX4_start_15 : decode cX4_start 15 = .ok (.iload_n 2, 1) := by decide +kernel
theorem dX4_start_16 : decode cX4_start 16 = .ok (.iaload, 1) := by decide +kernel
theorem dX4_start_17 : decode cX4_start 17 = .ok (.putfield 26, 3) := by decide +kernel
theorem dX4_start_20 : decode cX4_start 20 = .ok (.aload_n 0, 1) := by decide +kernel
theorem dX4_start_21 : decode cX4_start 21 = .ok (.iconst 0, 1) := by decide +kernel
theorem dX4_start_22 : decode cX4_start 22 = .ok (.putfield 28, 3) := by decide +kernel
theorem dX4_start_25 : decode cX4_start 25 = .ok (.aload_n 0, 1) := by decide +kernel
theorem dX4_start_26 : decode cX4_start 26 = .ok (.iconst 0, 1) := by decide +kernel
theorem dX4_start_27 : decode cX4_start 27 = .ok (.putfield 31, 3) := by decide +kernel
theorem dX4_start_30 : decode cX4_start 30 = .ok (.aload_n 0, 1) := by decide +kernel
theorem dX4_start_31 : decode cX4_start 31 = .ok (.iconst 0, 1) := by decide +kernel
theorem dX4_start_32 : decode cX4_start 32 = .ok (.putfield 34, 3) := by decide +kernel
theorem dX4_start_35 : decode cX4_start 35 = .ok (.aload_n 0, 1) := by decide +kernel
theorem dX4_start_36 : decode cX4_start 36 = .ok (.iconst 0, 1) := by decide +kernel
theorem dX4_start_37 : decode cX4_start 37 = .ok (.putfield 37, 3) := by decide +kernel
theorem dX4_start_40 : decode cX4_start 40 = .ok (.aload_n 0, 1) := by decide +kernel
theorem dX4_start_41 : decode cX4_start 41 = .ok (.iconst 0, 1) := by decide +kernel
theorem dX4_start_42 : decode cX4_start 42 = .ok (.putfield 40, 3) := by decide +kernel
theorem dX4_start_45 : decode cX4_start 45 = .ok (.aload_n 0, 1) := by decide +kernel
theorem dX4_start_46 : decode cX4_start 46 = .ok (.iconst 0, 1) := by decide +kernel
theorem dX4_start_47 : decode cX4_start 47 = .ok (.putfield 43, 3) := by decide +kernel
theorem dX4_start_50 : decode cX4_start 50 = .ok (.aload_n 0, 1) := by decide +kernel
theorem dX4_start_51 : decode cX4_start 51 = .ok (.iconst 0, 1) := by decide +kernel
theorem dX4_start_52 : decode cX4_start 52 = .ok (.putfield 46, 3) := by decide +kernel
theorem dX4_start_55 : decode cX4_start 55 = .ok (.aload_n 0, 1) := by decide +kernel
theorem dX4_start_56 : decode cX4_start 56 = .ok (.iconst 0, 1) := by decide +kernel
theorem dX4_start_57 : decode cX4_start 57 = .ok (.putfield 49, 3) := by decide +kernel
theorem dX4_start_60 : decode cX4_start 60 = .ok (.aload_n 0, 1) := by decide +kernel
theorem dX4_start_61 : decode cX4_start 61 = .ok (.iconst 1, 1) := by decide +kernel
theorem dX4_start_62 : decode cX4_start 62 = .ok (.putfield 52, 3) := by decide +kernel
theorem dX4_start_65 : decode cX4_start 65 = .ok (.aload_n 1, 1) := by decide +kernel
theorem dX4_start_66 : decode cX4_start 66 = .ok (.getfield 56, 3) := by decide +kernel
theorem dX4_start_69 : decode cX4_start 69 = .ok (.iload_n 2, 1) := by decide +kernel
theorem dX4_start_70 : decode cX4_start 70 = .ok (.bipush 6, 2) := by decide +kernel
theorem dX4_start_72 : decode cX4_start 72 = .ok (.imul, 1) := by decide +kernel
theorem dX4_start_73 : decode cX4_start 73 = .ok (.aload_n 0, 1) := by decide +kernel
theorem dX4_start_74 : decode cX4_start 74 = .ok (.getfield 9, 3) := by decide +kernel
theorem dX4_start_77 : decode cX4_start 77 = .ok (.iconst 0, 1) := by decide +kernel
theorem dX4_start_78 : decode cX4_start 78 = .ok (.bipush 6, 2) := by decide +kernel
theorem dX4_start_80 : decode cX4_start 80 = .ok (.invokestatic 57, 3) := by decide +kernel
theorem dX4_start_83 : decode cX4_start 83 = .ok (.return_, 1) := by decide +kernel
theorem dX4_copyFrom_0 : decode cX4_copyFrom 0 = .ok (.aload_n 0, 1) := by decide +kernel
theorem dX4_copyFrom_1 : decode cX4_copyFrom 1 = .ok (.aload_n 1, 1) := by decide +kernel
theorem dX4_copyFrom_2 : decode cX4_copyFrom 2 = .ok (.getfield 20, 3) := by decide +kernel
theorem dX4_copyFrom_5 : decode cX4_copyFrom 5 = .ok (.putfield 20, 3) := by decide +kernel
theorem dX4_copyFrom_8 : decode cX4_copyFrom 8 = .ok (.aload_n 0, 1) := by decide +kernel
theorem dX4_copyFrom_9 : decode cX4_copyFrom 9 = .ok (.aload_n 1, 1) := by decide +kernel
theorem dX4_copyFrom_10 : decode cX4_copyFrom 10 = .ok (.getfield 26, 3) := by decide +kernel
theorem dX4_copyFrom_13 : decode cX4_copyFrom 13 = .ok (.putfield 26, 3) := by decide +kernel
theorem dX4_copyFrom_16 : decode cX4_copyFrom 16 = .ok (.aload_n 0, 1) := by decide +kernel
theorem dX4_copyFrom_17 : decode cX4_copyFrom 17 = .ok (.aload_n 1, 1) := by decide +kernel
theorem dX4_copyFrom_18 : decode cX4_copyFrom 18 = .ok (.getfield 28, 3) := by decide +kernel
theorem dX4_copyFrom_21 : decode cX4_copyFrom 21 = .ok (.putfield 28, 3) := by decide +kernel
theorem dX4_copyFrom_24 : decode cX4_copyFrom 24 = .ok (.aload_n 0, 1) := by decide +kernel
theorem dX4_copyFrom_25 : decode cX4_copyFrom 25 = .ok (.aload_n 1, 1) := by decide +kernel
theorem dX4_copyFrom_26 : decode cX4_copyFrom 26 = .ok (.getfield 31, 3) := by decide +kernel
theorem dX4_copyFrom_29 : decode cX4_copyFrom 29 = .ok (.putfield 31, 3) := by decide +kernel
theorem dX4_copyFrom_32 : decode cX4_copyFrom 32 = .ok (.aload_n 0, 1) := by decide +kernel
theorem dX4_copyFrom_33 : decode cX4_copyFrom 33 = .ok (.aload_n 1, 1) := by decide +kernel
theorem dX4_copyFrom_34 : decode cX4_copyFrom 34 = .ok (.getfield 34, 3) := by decide +kernel
theorem dX4_copyFrom_37 : decode cX4_copyFrom 37 = .ok (.putfield 34, 3) := by decide +kernel
theorem dX4_copyFrom_40 : decode cX4_copyFrom 40 = .ok (.aload_n 0, 1) := by decide +kernel
theorem dX4_copyFrom_41 : decode cX4_copyFrom 41 = .ok (.aload_n 1, 1) := by decide +kernel
theorem dX4_copyFrom_42 : decode cX4_copyFrom 42 = .ok (.getfield 37, 3) := by decide +kernel
theorem dX4_copyFrom_45 : decode cX4_copyFrom 45 = .ok (.putfield 37, 3) := by decide +kernel
theorem dX4_copyFrom_48 : decode cX4_copyFrom 48 = .ok (.aload_n 0, 1) := by decide +kernel
theorem dX4_copyFrom_49 : decode cX4_copyFrom 49 = .ok (.aload_n 1, 1) := by decide +kernel
theorem dX4_copyFrom_50 : decode cX4_copyFrom 50 = .ok (.getfield 40, 3) := by decide +kernel
theorem dX4_copyFrom_53 : decode cX4_copyFrom 53 = .ok (.putfield 40, 3) := by decide +kernel
theorem dX4_copyFrom_56 : decode cX4_copyFrom 56 = .ok (.aload_n 0, 1) := by decide +kernel
theorem dX4_copyFrom_57 : decode cX4_copyFrom 57 = .ok (.aload_n 1, 1) := by decide +kernel
theorem dX4_copyFrom_58 : decode cX4_copyFrom 58 = .ok (.getfield 43, 3) := by decide +kernel
theorem dX4_copyFrom_61 : decode cX4_copyFrom 61 = .ok (.putfield 43, 3) := by decide +kernel
theorem dX4_copyFrom_64 : decode cX4_copyFrom 64 = .ok (.aload_n 0, 1) := by decide +kernel
theorem dX4_copyFrom_65 : decode cX4_copyFrom 65 = .ok (.aload_n 1, 1) := by decide +kernel
theorem dX4_copyFrom_66 : decode cX4_copyFrom 66 = .ok (.getfield 46, 3) := by decide +kernel
theorem dX4_copyFrom_69 : decode cX4_copyFrom 69 = .ok (.putfield 46, 3) := by decide +kernel
theorem dX4_copyFrom_72 : decode cX4_copyFrom 72 = .ok (.aload_n 0, 1) := by decide +kernel
theorem dX4_copyFrom_73 : decode cX4_copyFrom 73 = .ok (.aload_n 1, 1) := by decide +kernel
theorem dX4_copyFrom_74 : decode cX4_copyFrom 74 = .ok (.getfield 49, 3) := by decide +kernel
theorem dX4_copyFrom_77 : decode cX4_copyFrom 77 = .ok (.putfield 49, 3) := by decide +kernel
theorem dX4_copyFrom_80 : decode cX4_copyFrom 80 = .ok (.aload_n 0, 1) := by decide +kernel
theorem dX4_copyFrom_81 : decode cX4_copyFrom 81 = .ok (.aload_n 1, 1) := by decide +kernel
theorem dX4_copyFrom_82 : decode cX4_copyFrom 82 = .ok (.getfield 52, 3) := by decide +kernel
theorem dX4_copyFrom_85 : decode cX4_copyFrom 85 = .ok (.putfield 52, 3) := by decide +kernel
theorem dX4_copyFrom_88 : decode cX4_copyFrom 88 = .ok (.aload_n 1, 1) := by decide +kernel
theorem dX4_copyFrom_89 : decode cX4_copyFrom 89 = .ok (.getfield 9, 3) := by decide +kernel
theorem dX4_copyFrom_92 : decode cX4_copyFrom 92 = .ok (.iconst 0, 1) := by decide +kernel
theorem dX4_copyFrom_93 : decode cX4_copyFrom 93 = .ok (.aload_n 0, 1) := by decide +kernel
theorem dX4_copyFrom_94 : decode cX4_copyFrom 94 = .ok (.getfield 9, 3) := by decide +kernel
theorem dX4_copyFrom_97 : decode cX4_copyFrom 97 = .ok (.iconst 0, 1) := by decide +kernel
theorem dX4_copyFrom_98 : decode cX4_copyFrom 98 = .ok (.bipush 6, 2) := by decide +kernel
theorem dX4_copyFrom_100 : decode cX4_copyFrom 100 = .ok (.invokestatic 57, 3) := by decide +kernel
theorem dX4_copyFrom_103 : decode cX4_copyFrom 103 = .ok (.return_, 1) := by decide +kernel
theorem dX4_stepsOn_0 : decode cX4_stepsOn 0 = .ok (.aload_n 0, 1) := by decide +kernel
theorem dX4_stepsOn_1 : decode cX4_stepsOn 1 = .ok (.getfield 52, 3) := by decide +kernel
theorem dX4_stepsOn_4 : decode cX4_stepsOn 4 = .ok (.ifCond .eq 20, 3) := by decide +kernel
theorem dX4_stepsOn_7 : decode cX4_stepsOn 7 = .ok (.iload_n 1, 1) := by decide +kernel
theorem dX4_stepsOn_8 : decode cX4_stepsOn 8 = .ok (.aload_n 2, 1) := by decide +kernel
theorem dX4_stepsOn_9 : decode cX4_stepsOn 9 = .ok (.aload_n 2, 1) := by decide +kernel
theorem dX4_stepsOn_10 : decode cX4_stepsOn 10 = .ok (.getfield 63, 3) := by decide +kernel
theorem dX4_stepsOn_13 : decode cX4_stepsOn 13 = .ok (.aload_n 0, 1) := by decide +kernel
theorem dX4_stepsOn_14 : decode cX4_stepsOn 14 = .ok (.getfield 9, 3) := by decide +kernel
theorem dX4_stepsOn_17 : decode cX4_stepsOn 17 = .ok (.invokevirtual 66, 3) := by decide +kernel
theorem dX4_stepsOn_20 : decode cX4_stepsOn 20 = .ok (.iadd, 1) := by decide +kernel
theorem dX4_stepsOn_21 : decode cX4_stepsOn 21 = .ok (.goto 4, 3) := by decide +kernel
theorem dX4_stepsOn_24 : decode cX4_stepsOn 24 = .ok (.iconst 0, 1) := by decide +kernel
theorem dX4_stepsOn_25 : decode cX4_stepsOn 25 = .ok (.aload_n 0, 1) := by decide +kernel
theorem dX4_stepsOn_26 : decode cX4_stepsOn 26 = .ok (.getfield 49, 3) := by decide +kernel
theorem dX4_stepsOn_29 : decode cX4_stepsOn 29 = .ok (.iadd, 1) := by decide +kernel
theorem dX4_stepsOn_30 : decode cX4_stepsOn 30 = .ok (.ireturn, 1) := by decide +kernel
theorem dX5_init_0 : decode cX5_init 0 = .ok (.aload_n 0, 1) := by decide +kernel
theorem dX5_init_1 : decode cX5_init 1 = .ok (.invokespecial 3, 3) := by decide +kernel
theorem dX5_init_4 : decode cX5_init 4 = .ok (.aload_n 0, 1) := by decide +kernel
theorem dX5_init_5 : decode cX5_init 5 = .ok (.new 9, 3) := by decide +kernel
theorem dX5_init_8 : decode cX5_init 8 = .ok (.dup, 1) := by decide +kernel
theorem dX5_init_9 : decode cX5_init 9 = .ok (.invokespecial 11, 3) := by decide +kernel
theorem dX5_init_12 : decode cX5_init 12 = .ok (.putfield 12, 3) := by decide +kernel
theorem dX5_init_15 : decode cX5_init 15 = .ok (.aload_n 0, 1) := by decide +kernel
theorem dX5_init_16 : decode cX5_init 16 = .ok (.iconst 4, 1) := by decide +kernel
theorem dX5_init_17 : decode cX5_init 17 = .ok (.newarray .boolean, 2) := by decide +kernel
theorem dX5_init_19 : decode cX5_init 19 = .ok (.putfield 18, 3) := by decide +kernel
theorem dX5_init_22 : decode cX5_init 22 = .ok (.aload_n 0, 1) := by decide +kernel
theorem dX5_init_23 : decode cX5_init 23 = .ok (.iconst 0, 1) := by decide +kernel
theorem dX5_init_24 : decode cX5_init 24 = .ok (.putfield 22, 3) := by decide +kernel
theorem dX5_init_27 : decode cX5_init 27 = .ok (.aload_n 0, 1) := by decide +kernel
theorem dX5_init_28 : decode cX5_init 28 = .ok (.iconst (-1), 1) := by decide +kernel
theorem dX5_init_29 : decode cX5_init 29 = .ok (.putfield 26, 3) := by decide +kernel
theorem dX5_init_32 : decode cX5_init 32 = .ok (.aload_n 0, 1) := by decide +kernel
theorem dX5_init_33 : decode cX5_init 33 = .ok (.aload_n 1, 1) := by decide +kernel
theorem dX5_init_34 : decode cX5_init 34 = .ok (.putfield 29, 3) := by decide +kernel
theorem dX5_init_37 : decode cX5_init 37 = .ok (.return_, 1) := by decide +kernel
theorem dX5_readText_0 : decode cX5_readText 0 = .ok (.aload_n 0, 1) := by decide +kernel
theorem dX5_readText_1 : decode cX5_readText 1 = .ok (.aload_n 1, 1) := by decide +kernel
theorem dX5_readText_2 : decode cX5_readText 2 = .ok (.putfield 33, 3) := by decide +kernel
theorem dX5_readText_5 : decode cX5_readText 5 = .ok (.aload_n 0, 1) := by decide +kernel
theorem dX5_readText_6 : decode cX5_readText 6 = .ok (.getfield 33, 3) := by decide +kernel
theorem dX5_readText_9 : decode cX5_readText 9 = .ok (.invokevirtual 37, 3) := by decide +kernel
theorem dX5_readText_12 : decode cX5_readText 12 = .ok (.iconst 0, 1) := by decide +kernel
theorem dX5_readText_13 : decode cX5_readText 13 = .ok (.istore_n 3, 1) := by decide +kernel
theorem dX5_readText_14 : decode cX5_readText 14 = .ok (.iload_n 3, 1) := by decide +kernel
theorem dX5_readText_15 : decode cX5_readText 15 = .ok (.aload_n 0, 1) := by decide +kernel
theorem dX5_readText_16 : decode cX5_readText 16 = .ok (.getfield 18, 3) := by decide +kernel
theorem dX5_readText_19 : decode cX5_readText 19 = .ok (.arraylength, 1) := by decide +kernel
theorem dX5_readText_20 : decode cX5_readText 20 = .ok (.if_icmp .ge 16, 3) := by decide +kernel
theorem dX5_readText_23 : decode cX5_readText 23 = .ok (.aload_n 0, 1) := by decide +kernel
theorem dX5_readText_24 : decode cX5_readText 24 = .ok (.getfield 18, 3) := by decide +kernel
theorem dX5_readText_27 : decode cX5_readText 27 = .ok (.iload_n 3, 1) := by decide +kernel
theorem dX5_readText_28 : decode cX5_readText 28 = .ok (.iconst 0, 1) := by decide +kernel
theorem dX5_readText_29 : decode cX5_readText 29 = .ok (.bastore, 1) := by decide +kernel
theorem dX5_readText_30 : decode cX5_readText 30 = .ok (.iinc 3 1, 3) := by decide +kernel
theorem dX5_readText_33 : decode cX5_readText 33 = .ok (.goto (-19), 3) := by decide +kernel
theorem dX5_readText_36 : decode cX5_readText 36 = .ok (.aload_n 0, 1) := by decide +kernel
theorem dX5_readText_37 : decode cX5_readText 37 = .ok (.iconst 0, 1) := by decide +kernel
theorem dX5_readText_38 : decode cX5_readText 38 = .ok (.putfield 22, 3) := by decide +kernel
theorem dX5_readText_41 : decode cX5_readText 41 = .ok (.aload_n 0, 1) := by decide +kernel
theorem dX5_readText_42 : decode cX5_readText 42 = .ok (.iconst (-1), 1) := by decide +kernel
theorem dX5_readText_43 : decode cX5_readText 43 = .ok (.putfield 26, 3) := by decide +kernel
theorem dX5_readText_46 : decode cX5_readText 46 = .ok (.aload_n 0, 1) := by decide +kernel
theorem dX5_readText_47 : decode cX5_readText 47 = .ok (.getfield 29, 3) := by decide +kernel
theorem dX5_readText_50 : decode cX5_readText 50 = .ok (.iload_n 2, 1) := by decide +kernel
theorem dX5_readText_51 : decode cX5_readText 51 = .ok (.invokevirtual 42, 3) := by decide +kernel
theorem dX5_readText_54 : decode cX5_readText 54 = .ok (.iconst 0, 1) := by decide +kernel
theorem dX5_readText_55 : decode cX5_readText 55 = .ok (.istore_n 3, 1) := by decide +kernel
theorem dX5_readText_56 : decode cX5_readText 56 = .ok (.iload_n 2, 1) := by decide +kernel
theorem dX5_readText_57 : decode cX5_readText 57 = .ok (.istore 4, 2) := by decide +kernel
theorem dX5_readText_59 : decode cX5_readText 59 = .ok (.iload 4, 2) := by decide +kernel
theorem dX5_readText_61 : decode cX5_readText 61 = .ok (.ifCond .le 40, 3) := by decide +kernel
theorem dX5_readText_64 : decode cX5_readText 64 = .ok (.aload_n 0, 1) := by decide +kernel
theorem dX5_readText_65 : decode cX5_readText 65 = .ok (.getfield 29, 3) := by decide +kernel
theorem dX5_readText_68 : decode cX5_readText 68 = .ok (.getfield 48, 3) := by decide +kernel
theorem dX5_readText_71 : decode cX5_readText 71 = .ok (.bipush 36, 2) := by decide +kernel
theorem dX5_readText_73 : decode cX5_readText 73 = .ok (.if_icmp .eq 28, 3) := by decide +kernel
theorem dX5_readText_76 : decode cX5_readText 76 = .ok (.aload_n 0, 1) := by decide +kernel
theorem dX5_readText_77 : decode cX5_readText 77 = .ok (.invokevirtual 51, 3) := by decide +kernel
theorem dX5_readText_80 : decode cX5_readText 80 = .ok (.ifCond .eq 10, 3) := by decide +kernel
theorem dX5_readText_83 : decode cX5_readText 83 = .ok (.aload_n 0, 1) := by decide +kernel
theorem dX5_readText_84 : decode cX5_readText 84 = .ok (.invokevirtual 55, 3) := by decide +kernel
theorem dX5_readText_87 : decode cX5_readText 87 = .ok (.ifCond .ne 5, 3) := by decide +kernel
theorem dX5_readText_90 : decode cX5_readText 90 = .ok (.iconst (-1), 1) := by decide +kernel
theorem dX5_readText_91 : decode cX5_readText 91 = .ok (.ireturn, 1) := by decide +kernel
theorem dX5_readText_92 : decode cX5_readText 92 = .ok (.iinc 3 1, 3) := by decide +kernel
theorem dX5_readText_95 : decode cX5_readText 95 = .ok (.iinc 4 (-1), 3) := by decide +kernel
theorem dX5_readText_98 : decode cX5_readText 98 = .ok (.goto (-39), 3) := by decide +kernel
theorem dX5_readText_101 : decode cX5_readText 101 = .ok (.iload_n 3, 1) := by decide +kernel
theorem dX5_readText_102 : decode cX5_readText 102 = .ok (.ireturn, 1) := by decide +kernel
theorem dX5_fail_0 : decode cX5_fail 0 = .ok (.aload_n 0, 1) := by decide +kernel
theorem dX5_fail_1 : decode cX5_fail 1 = .ok (.iload_n 1, 1) := by decide +kernel
theorem dX5_fail_2 : decode cX5_fail 2 = .ok (.putfield 22, 3) := by decide +kernel
theorem dX5_fail_5 : decode cX5_fail 5 = .ok (.aload_n 0, 1) := by decide +kernel
theorem dX5_fail_6 : decode cX5_fail 6 = .ok (.aload_n 0, 1) := by decide +kernel
theorem dX5_fail_7 : decode cX5_fail 7 = .ok (.getfield 29, 3) := by decide +kernel
theorem dX5_fail_10 : decode cX5_fail 10 = .ok (.getfield 58, 3) := by decide +kernel
theorem dX5_fail_13 : decode cX5_fail 13 = .ok (.putfield 26, 3) := by decide +kernel
theorem dX5_fail_16 : decode cX5_fail 16 = .ok (.iconst 0, 1) := by decide +kernel
theorem dX5_fail_17 : decode cX5_fail 17 = .ok (.ireturn, 1) := by decide +kernel
theorem dX5_readLineEnd_0 : decode cX5_readLineEnd 0 = .ok (.aload_n 0, 1) := by decide +kernel
theorem dX5_readLineEnd_1 : decode cX5_readLineEnd 1 = .ok (.getfield 29, 3) := by decide +kernel
theorem dX5_readLineEnd_4 : decode cX5_readLineEnd 4 = .ok (.getfield 48, 3) := by decide +kernel
theorem dX5_readLineEnd_7 : decode cX5_readLineEnd 7 = .ok (.bipush 33, 2) := by decide +kernel
theorem dX5_readLineEnd_9 : decode cX5_readLineEnd 9 = .ok (.if_icmp .eq 9, 3) := by decide +kernel
theorem dX5_readLineEnd_12 : decode cX5_readLineEnd 12 = .ok (.aload_n 0, 1) := by decide +kernel
theorem dX5_readLineEnd_13 : decode cX5_readLineEnd 13 = .ok (.iconst 1, 1) := by decide +kernel
theorem dX5_readLineEnd_14 : decode cX5_readLineEnd 14 = .ok (.invokevirtual 59, 3) := by decide +kernel
theorem dX5_readLineEnd_17 : decode cX5_readLineEnd 17 = .ok (.ireturn, 1) := by decide +kernel
theorem dX5_readLineEnd_18 : decode cX5_readLineEnd 18 = .ok (.aload_n 0, 1) := by decide +kernel
theorem dX5_readLineEnd_19 : decode cX5_readLineEnd 19 = .ok (.getfield 29, 3) := by decide +kernel
theorem dX5_readLineEnd_22 : decode cX5_readLineEnd 22 = .ok (.invokevirtual 63, 3) := by decide +kernel
theorem dX5_readLineEnd_25 : decode cX5_readLineEnd 25 = .ok (.iconst 1, 1) := by decide +kernel
theorem dX5_readLineEnd_26 : decode cX5_readLineEnd 26 = .ok (.ireturn, 1) := by decide +kernel
theorem dX5_readLine_0 : decode cX5_readLine 0 = .ok (.aload_n 0, 1) := by decide +kernel
theorem dX5_readLine_1 : decode cX5_readLine 1 = .ok (.getfield 29, 3) := by decide +kernel
theorem dX5_readLine_4 : decode cX5_readLine 4 = .ok (.getfield 48, 3) := by decide +kernel
theorem dX5_readLine_7 : decode cX5_readLine 7 = .ok (.tableswitch 85 0 7 #[45, 50, 55, 60, 65, 70, 75, 80], 45) := by decide +kernel
theorem dX5_readLine_52 : decode cX5_readLine 52 = .ok (.aload_n 0, 1) := by decide +kernel
theorem dX5_readLine_53 : decode cX5_readLine 53 = .ok (.invokevirtual 66, 3) := by decide +kernel
theorem dX5_readLine_56 : decode cX5_readLine 56 = .ok (.ireturn, 1) := by decide +kernel
theorem dX5_readLine_57 : decode cX5_readLine 57 = .ok (.aload_n 0, 1) := by decide +kernel
theorem dX5_readLine_58 : decode cX5_readLine 58 = .ok (.invokevirtual 69, 3) := by decide +kernel
theorem dX5_readLine_61 : decode cX5_readLine 61 = .ok (.ireturn, 1) := by decide +kernel
theorem dX5_readLine_62 : decode cX5_readLine 62 = .ok (.aload_n 0, 1) := by decide +kernel
theorem dX5_readLine_63 : decode cX5_readLine 63 = .ok (.invokevirtual 72, 3) := by decide +kernel
theorem dX5_readLine_66 : decode cX5_readLine 66 = .ok (.ireturn, 1) := by decide +kernel
theorem dX5_readLine_67 : decode cX5_readLine 67 = .ok (.aload_n 0, 1) := by decide +kernel
theorem dX5_readLine_68 : decode cX5_readLine 68 = .ok (.invokevirtual 75, 3) := by decide +kernel
theorem dX5_readLine_71 : decode cX5_readLine 71 = .ok (.ireturn, 1) := by decide +kernel
theorem dX5_readLine_72 : decode cX5_readLine 72 = .ok (.aload_n 0, 1) := by decide +kernel
theorem dX5_readLine_73 : decode cX5_readLine 73 = .ok (.invokevirtual 78, 3) := by decide +kernel
theorem dX5_readLine_76 : decode cX5_readLine 76 = .ok (.ireturn, 1) := by decide +kernel
theorem dX5_readLine_77 : decode cX5_readLine 77 = .ok (.aload_n 0, 1) := by decide +kernel
theorem dX5_readLine_78 : decode cX5_readLine 78 = .ok (.invokevirtual 81, 3) := by decide +kernel
theorem dX5_readLine_81 : decode cX5_readLine 81 = .ok (.ireturn, 1) := by decide +kernel
theorem dX5_readLine_82 : decode cX5_readLine 82 = .ok (.aload_n 0, 1) := by decide +kernel
theorem dX5_readLine_83 : decode cX5_readLine 83 = .ok (.invokevirtual 84, 3) := by decide +kernel
theorem dX5_readLine_86 : decode cX5_readLine 86 = .ok (.ireturn, 1) := by decide +kernel
theorem dX5_readLine_87 : decode cX5_readLine 87 = .ok (.aload_n 0, 1) := by decide +kernel
theorem dX5_readLine_88 : decode cX5_readLine 88 = .ok (.invokevirtual 87, 3) := by decide +kernel
theorem dX5_readLine_91 : decode cX5_readLine 91 = .ok (.ireturn, 1) := by decide +kernel
theorem dX5_readLine_92 : decode cX5_readLine 92 = .ok (.aload_n 0, 1) := by decide +kernel
theorem dX5_readLine_93 : decode cX5_readLine 93 = .ok (.iconst 1, 1) := by decide +kernel
theorem dX5_readLine_94 : decode cX5_readLine 94 = .ok (.invokevirtual 59, 3) := by decide +kernel
theorem dX5_readLine_97 : decode cX5_readLine 97 = .ok (.ireturn, 1) := by decide +kernel
theorem dX5_readMan_0 : decode cX5_readMan 0 = .ok (.aload_n 0, 1) := by decide +kernel
theorem dX5_readMan_1 : decode cX5_readMan 1 = .ok (.getfield 33, 3) := by decide +kernel
theorem dX5_readMan_4 : decode cX5_readMan 4 = .ok (.getfield 90, 3) := by decide +kernel
theorem dX5_readMan_7 : decode cX5_readMan 7 = .ok (.istore_n 1, 1) := by decide +kernel
theorem dX5_readMan_8 : decode cX5_readMan 8 = .ok (.iload_n 1, 1) := by decide +kernel
theorem dX5_readMan_9 : decode cX5_readMan 9 = .ok (.iconst 5, 1) := by decide +kernel
theorem dX5_readMan_10 : decode cX5_readMan 10 = .ok (.if_icmp .lt 9, 3) := by decide +kernel
theorem dX5_readMan_13 : decode cX5_readMan 13 = .ok (.aload_n 0, 1) := by decide +kernel
theorem dX5_readMan_14 : decode cX5_readMan 14 = .ok (.iconst 2, 1) := by decide +kernel
theorem dX5_readMan_15 : decode cX5_readMan 15 = .ok (.invokevirtual 59, 3) := by decide +kernel
theorem dX5_readMan_18 : decode cX5_readMan 18 = .ok (.ireturn, 1) := by decide +kernel
theorem dX5_readMan_19 : decode cX5_readMan 19 = .ok (.aload_n 0, 1) := by decide +kernel
theorem dX5_readMan_20 : decode cX5_readMan 20 = .ok (.getfield 29, 3) := by decide +kernel
theorem dX5_readMan_23 : decode cX5_readMan 23 = .ok (.invokevirtual 63, 3) := by decide +kernel
theorem dX5_readMan_26 : decode cX5_readMan 26 = .ok (.aload_n 0, 1) := by decide +kernel
theorem dX5_readMan_27 : decode cX5_readMan 27 = .ok (.aload_n 0, 1) := by decide +kernel
theorem dX5_readMan_28 : decode cX5_readMan 28 = .ok (.getfield 33, 3) := by decide +kernel
theorem dX5_readMan_31 : decode cX5_readMan 31 = .ok (.getfield 93, 3) := by decide +kernel
theorem dX5_readMan_34 : decode cX5_readMan 34 = .ok (.iload_n 1, 1) := by decide +kernel
theorem dX5_readMan_35 : decode cX5_readMan 35 = .ok (.invokevirtual 97, 3) := by decide +kernel
theorem dX5_readMan_38 : decode cX5_readMan 38 = .ok (.ifCond .eq 13, 3) := by decide +kernel
theorem dX5_readMan_41 : decode cX5_readMan 41 = .ok (.aload_n 0, 1) := by decide +kernel
theorem dX5_readMan_42 : decode cX5_readMan 42 = .ok (.iconst 0, 1) := by decide +kernel
theorem dX5_readMan_43 : decode cX5_readMan 43 = .ok (.bipush 99, 2) := by decide +kernel
theorem dX5_readMan_45 : decode cX5_readMan 45 = .ok (.invokevirtual 101, 3) := by decide +kernel
theorem dX5_readMan_48 : decode cX5_readMan 48 = .ok (.ifCond .ne 5, 3) := by decide +kernel
theorem dX5_readMan_51 : decode cX5_readMan 51 = .ok (.iconst 0, 1) := by decide +kernel
theorem dX5_readMan_52 : decode cX5_readMan 52 = .ok (.ireturn, 1) := by decide +kernel
theorem dX5_readMan_53 : decode cX5_readMan 53 = .ok (.aload_n 0, 1) := by decide +kernel
theorem dX5_readMan_54 : decode cX5_readMan 54 = .ok (.getfield 33, 3) := by decide +kernel
theorem dX5_readMan_57 : decode cX5_readMan 57 = .ok (.getfield 105, 3) := by decide +kernel
theorem dX5_readMan_60 : decode cX5_readMan 60 = .ok (.iload_n 1, 1) := by decide +kernel
theorem dX5_readMan_61 : decode cX5_readMan 61 = .ok (.aload_n 0, 1) := by decide +kernel
theorem dX5_readMan_62 : decode cX5_readMan 62 = .ok (.getfield 108, 3) := by decide +kernel
theorem dX5_readMan_65 : decode cX5_readMan 65 = .ok (.iastore, 1) := by decide +kernel
theorem dX5_readMan_66 : decode cX5_readMan 66 = .ok (.aload_n 0, 1) := by decide +kernel
theorem dX5_readMan_67 : decode cX5_readMan 67 = .ok (.iconst 0, 1) := by decide +kernel
theorem dX5_readMan_68 : decode cX5_readMan 68 = .ok (.bipush 99, 2) := by decide +kernel
theorem dX5_readMan_70 : decode cX5_readMan 70 = .ok (.invokevirtual 101, 3) := by decide +kernel
theorem dX5_readMan_73 : decode cX5_readMan 73 = .ok (.ifCond .ne 5, 3) := by decide +kernel
theorem dX5_readMan_76 : decode cX5_readMan 76 = .ok (.iconst 0, 1) := by decide +kernel
theorem dX5_readMan_77 : decode cX5_readMan 77 = .ok (.ireturn, 1) := by decide +kernel
theorem dX5_readMan_78 : decode cX5_readMan 78 = .ok (.aload_n 0, 1) := by decide +kernel
theorem dX5_readMan_79 : decode cX5_readMan 79 = .ok (.getfield 33, 3) := by decide +kernel
theorem dX5_readMan_82 : decode cX5_readMan 82 = .ok (.getfield 111, 3) := by decide +kernel
theorem dX5_readMan_85 : decode cX5_readMan 85 = .ok (.iload_n 1, 1) := by decide +kernel
theorem dX5_readMan_86 : decode cX5_readMan 86 = .ok (.aload_n 0, 1) := by decide +kernel
theorem dX5_readMan_87 : decode cX5_readMan 87 = .ok (.getfield 108, 3) := by decide +kernel
theorem dX5_readMan_90 : decode cX5_readMan 90 = .ok (.iastore, 1) := by decide +kernel
theorem dX5_readMan_91 : decode cX5_readMan 91 = .ok (.aload_n 0, 1) := by decide +kernel
theorem dX5_readMan_92 : decode cX5_readMan 92 = .ok (.iconst 0, 1) := by decide +kernel
theorem dX5_readMan_93 : decode cX5_readMan 93 = .ok (.bipush 99, 2) := by decide +kernel
theorem dX5_readMan_95 : decode cX5_readMan 95 = .ok (.invokevirtual 101, 3) := by decide +kernel
theorem dX5_readMan_98 : decode cX5_readMan 98 = .ok (.ifCond .ne 5, 3) := by decide +kernel
theorem dX5_readMan_101 : decode cX5_readMan 101 = .ok (.iconst 0, 1) := by decide +kernel
theorem dX5_readMan_102 : decode cX5_readMan 102 = .ok (.ireturn, 1) := by decide +kernel
theorem dX5_readMan_103 : decode cX5_readMan 103 = .ok (.aload_n 0, 1) := by decide +kernel
theorem dX5_readMan_104 : decode cX5_readMan 104 = .ok (.getfield 33, 3) := by decide +kernel
theorem dX5_readMan_107 : decode cX5_readMan 107 = .ok (.getfield 114, 3) := by decide +kernel
theorem dX5_readMan_110 : decode cX5_readMan 110 = .ok (.iload_n 1, 1) := by decide +kernel
theorem dX5_readMan_111 : decode cX5_readMan 111 = .ok (.aload_n 0, 1) := by decide +kernel
theorem dX5_readMan_112 : decode cX5_readMan 112 = .ok (.getfield 108, 3) := by decide +kernel
