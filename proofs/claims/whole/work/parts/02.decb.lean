theorem dX5_readMan_115 : decode cX5_readMan 115 = .ok (.iastore, 1) := by decide +kernel
theorem dX5_readMan_116 : decode cX5_readMan 116 = .ok (.aload_n 0, 1) := by decide +kernel
theorem dX5_readMan_117 : decode cX5_readMan 117 = .ok (.getfield 33, 3) := by decide +kernel
theorem dX5_readMan_120 : decode cX5_readMan 120 = .ok (.dup, 1) := by decide +kernel
theorem dX5_readMan_121 : decode cX5_readMan 121 = .ok (.getfield 90, 3) := by decide +kernel
theorem dX5_readMan_124 : decode cX5_readMan 124 = .ok (.iconst 1, 1) := by decide +kernel
theorem dX5_readMan_125 : decode cX5_readMan 125 = .ok (.iadd, 1) := by decide +kernel
theorem dX5_readMan_126 : decode cX5_readMan 126 = .ok (.putfield 90, 3) := by decide +kernel
theorem dX5_readMan_129 : decode cX5_readMan 129 = .ok (.iconst 1, 1) := by decide +kernel
theorem dX5_readMan_130 : decode cX5_readMan 130 = .ok (.ireturn, 1) := by decide +kernel
theorem dX5_readDeed_0 : decode cX5_readDeed 0 = .ok (.aload_n 0, 1) := by decide +kernel
theorem dX5_readDeed_1 : decode cX5_readDeed 1 = .ok (.getfield 33, 3) := by decide +kernel
theorem dX5_readDeed_4 : decode cX5_readDeed 4 = .ok (.getfield 117, 3) := by decide +kernel
theorem dX5_readDeed_7 : decode cX5_readDeed 7 = .ok (.istore_n 1, 1) := by decide +kernel
theorem dX5_readDeed_8 : decode cX5_readDeed 8 = .ok (.iload_n 1, 1) := by decide +kernel
theorem dX5_readDeed_9 : decode cX5_readDeed 9 = .ok (.bipush 6, 2) := by decide +kernel
theorem dX5_readDeed_11 : decode cX5_readDeed 11 = .ok (.if_icmp .lt 9, 3) := by decide +kernel
theorem dX5_readDeed_14 : decode cX5_readDeed 14 = .ok (.aload_n 0, 1) := by decide +kernel
theorem dX5_readDeed_15 : decode cX5_readDeed 15 = .ok (.iconst 2, 1) := by decide +kernel
theorem dX5_readDeed_16 : decode cX5_readDeed 16 = .ok (.invokevirtual 59, 3) := by decide +kernel
theorem dX5_readDeed_19 : decode cX5_readDeed 19 = .ok (.ireturn, 1) := by decide +kernel
theorem dX5_readDeed_20 : decode cX5_readDeed 20 = .ok (.aload_n 0, 1) := by decide +kernel
theorem dX5_readDeed_21 : decode cX5_readDeed 21 = .ok (.getfield 29, 3) := by decide +kernel
theorem dX5_readDeed_24 : decode cX5_readDeed 24 = .ok (.invokevirtual 63, 3) := by decide +kernel
theorem dX5_readDeed_27 : decode cX5_readDeed 27 = .ok (.aload_n 0, 1) := by decide +kernel
theorem dX5_readDeed_28 : decode cX5_readDeed 28 = .ok (.aload_n 0, 1) := by decide +kernel
theorem dX5_readDeed_29 : decode cX5_readDeed 29 = .ok (.getfield 33, 3) := by decide +kernel
theorem dX5_readDeed_32 : decode cX5_readDeed 32 = .ok (.getfield 120, 3) := by decide +kernel
theorem dX5_readDeed_35 : decode cX5_readDeed 35 = .ok (.iload_n 1, 1) := by decide +kernel
theorem dX5_readDeed_36 : decode cX5_readDeed 36 = .ok (.invokevirtual 97, 3) := by decide +kernel
theorem dX5_readDeed_39 : decode cX5_readDeed 39 = .ok (.ifCond .eq 13, 3) := by decide +kernel
theorem dX5_readDeed_42 : decode cX5_readDeed 42 = .ok (.aload_n 0, 1) := by decide +kernel
theorem dX5_readDeed_43 : decode cX5_readDeed 43 = .ok (.iconst 0, 1) := by decide +kernel
theorem dX5_readDeed_44 : decode cX5_readDeed 44 = .ok (.bipush 20, 2) := by decide +kernel
theorem dX5_readDeed_46 : decode cX5_readDeed 46 = .ok (.invokevirtual 101, 3) := by decide +kernel
theorem dX5_readDeed_49 : decode cX5_readDeed 49 = .ok (.ifCond .ne 5, 3) := by decide +kernel
theorem dX5_readDeed_52 : decode cX5_readDeed 52 = .ok (.iconst 0, 1) := by decide +kernel
theorem dX5_readDeed_53 : decode cX5_readDeed 53 = .ok (.ireturn, 1) := by decide +kernel
theorem dX5_readDeed_54 : decode cX5_readDeed 54 = .ok (.aload_n 0, 1) := by decide +kernel
theorem dX5_readDeed_55 : decode cX5_readDeed 55 = .ok (.getfield 33, 3) := by decide +kernel
theorem dX5_readDeed_58 : decode cX5_readDeed 58 = .ok (.getfield 123, 3) := by decide +kernel
theorem dX5_readDeed_61 : decode cX5_readDeed 61 = .ok (.iload_n 1, 1) := by decide +kernel
theorem dX5_readDeed_62 : decode cX5_readDeed 62 = .ok (.aload_n 0, 1) := by decide +kernel
theorem dX5_readDeed_63 : decode cX5_readDeed 63 = .ok (.getfield 108, 3) := by decide +kernel
theorem dX5_readDeed_66 : decode cX5_readDeed 66 = .ok (.iastore, 1) := by decide +kernel
theorem dX5_readDeed_67 : decode cX5_readDeed 67 = .ok (.aload_n 0, 1) := by decide +kernel
theorem dX5_readDeed_68 : decode cX5_readDeed 68 = .ok (.iconst 0, 1) := by decide +kernel
theorem dX5_readDeed_69 : decode cX5_readDeed 69 = .ok (.bipush 20, 2) := by decide +kernel
theorem dX5_readDeed_71 : decode cX5_readDeed 71 = .ok (.invokevirtual 101, 3) := by decide +kernel
theorem dX5_readDeed_74 : decode cX5_readDeed 74 = .ok (.ifCond .ne 5, 3) := by decide +kernel
theorem dX5_readDeed_77 : decode cX5_readDeed 77 = .ok (.iconst 0, 1) := by decide +kernel
theorem dX5_readDeed_78 : decode cX5_readDeed 78 = .ok (.ireturn, 1) := by decide +kernel
theorem dX5_readDeed_79 : decode cX5_readDeed 79 = .ok (.aload_n 0, 1) := by decide +kernel
theorem dX5_readDeed_80 : decode cX5_readDeed 80 = .ok (.getfield 33, 3) := by decide +kernel
theorem dX5_readDeed_83 : decode cX5_readDeed 83 = .ok (.getfield 126, 3) := by decide +kernel
theorem dX5_readDeed_86 : decode cX5_readDeed 86 = .ok (.iload_n 1, 1) := by decide +kernel
theorem dX5_readDeed_87 : decode cX5_readDeed 87 = .ok (.aload_n 0, 1) := by decide +kernel
theorem dX5_readDeed_88 : decode cX5_readDeed 88 = .ok (.getfield 108, 3) := by decide +kernel
theorem dX5_readDeed_91 : decode cX5_readDeed 91 = .ok (.iastore, 1) := by decide +kernel
theorem dX5_readDeed_92 : decode cX5_readDeed 92 = .ok (.aload_n 0, 1) := by decide +kernel
theorem dX5_readDeed_93 : decode cX5_readDeed 93 = .ok (.iconst 0, 1) := by decide +kernel
theorem dX5_readDeed_94 : decode cX5_readDeed 94 = .ok (.bipush 9, 2) := by decide +kernel
theorem dX5_readDeed_96 : decode cX5_readDeed 96 = .ok (.invokevirtual 101, 3) := by decide +kernel
theorem dX5_readDeed_99 : decode cX5_readDeed 99 = .ok (.ifCond .ne 5, 3) := by decide +kernel
theorem dX5_readDeed_102 : decode cX5_readDeed 102 = .ok (.iconst 0, 1) := by decide +kernel
theorem dX5_readDeed_103 : decode cX5_readDeed 103 = .ok (.ireturn, 1) := by decide +kernel
theorem dX5_readDeed_104 : decode cX5_readDeed 104 = .ok (.aload_n 0, 1) := by decide +kernel
theorem dX5_readDeed_105 : decode cX5_readDeed 105 = .ok (.getfield 33, 3) := by decide +kernel
theorem dX5_readDeed_108 : decode cX5_readDeed 108 = .ok (.getfield 129, 3) := by decide +kernel
theorem dX5_readDeed_111 : decode cX5_readDeed 111 = .ok (.iload_n 1, 1) := by decide +kernel
theorem dX5_readDeed_112 : decode cX5_readDeed 112 = .ok (.aload_n 0, 1) := by decide +kernel
theorem dX5_readDeed_113 : decode cX5_readDeed 113 = .ok (.getfield 108, 3) := by decide +kernel
theorem dX5_readDeed_116 : decode cX5_readDeed 116 = .ok (.iastore, 1) := by decide +kernel
theorem dX5_readDeed_117 : decode cX5_readDeed 117 = .ok (.aload_n 0, 1) := by decide +kernel
theorem dX5_readDeed_118 : decode cX5_readDeed 118 = .ok (.getfield 33, 3) := by decide +kernel
theorem dX5_readDeed_121 : decode cX5_readDeed 121 = .ok (.dup, 1) := by decide +kernel
theorem dX5_readDeed_122 : decode cX5_readDeed 122 = .ok (.getfield 117, 3) := by decide +kernel
theorem dX5_readDeed_125 : decode cX5_readDeed 125 = .ok (.iconst 1, 1) := by decide +kernel
theorem dX5_readDeed_126 : decode cX5_readDeed 126 = .ok (.iadd, 1) := by decide +kernel
theorem dX5_readDeed_127 : decode cX5_readDeed 127 = .ok (.putfield 117, 3) := by decide +kernel
theorem dX5_readDeed_130 : decode cX5_readDeed 130 = .ok (.iconst 1, 1) := by decide +kernel
theorem dX5_readDeed_131 : decode cX5_readDeed 131 = .ok (.ireturn, 1) := by decide +kernel
theorem dX5_readPlan_0 : decode cX5_readPlan 0 = .ok (.aload_n 0, 1) := by decide +kernel
theorem dX5_readPlan_1 : decode cX5_readPlan 1 = .ok (.getfield 33, 3) := by decide +kernel
theorem dX5_readPlan_4 : decode cX5_readPlan 4 = .ok (.getfield 132, 3) := by decide +kernel
theorem dX5_readPlan_7 : decode cX5_readPlan 7 = .ok (.bipush 12, 2) := by decide +kernel
theorem dX5_readPlan_9 : decode cX5_readPlan 9 = .ok (.if_icmp .lt 9, 3) := by decide +kernel
theorem dX5_readPlan_12 : decode cX5_readPlan 12 = .ok (.aload_n 0, 1) := by decide +kernel
theorem dX5_readPlan_13 : decode cX5_readPlan 13 = .ok (.iconst 2, 1) := by decide +kernel
theorem dX5_readPlan_14 : decode cX5_readPlan 14 = .ok (.invokevirtual 59, 3) := by decide +kernel
theorem dX5_readPlan_17 : decode cX5_readPlan 17 = .ok (.ireturn, 1) := by decide +kernel
theorem dX5_readPlan_18 : decode cX5_readPlan 18 = .ok (.aload_n 0, 1) := by decide +kernel
theorem dX5_readPlan_19 : decode cX5_readPlan 19 = .ok (.getfield 29, 3) := by decide +kernel
theorem dX5_readPlan_22 : decode cX5_readPlan 22 = .ok (.invokevirtual 63, 3) := by decide +kernel
theorem dX5_readPlan_25 : decode cX5_readPlan 25 = .ok (.aload_n 0, 1) := by decide +kernel
theorem dX5_readPlan_26 : decode cX5_readPlan 26 = .ok (.aload_n 0, 1) := by decide +kernel
theorem dX5_readPlan_27 : decode cX5_readPlan 27 = .ok (.getfield 33, 3) := by decide +kernel
theorem dX5_readPlan_30 : decode cX5_readPlan 30 = .ok (.getfield 93, 3) := by decide +kernel
theorem dX5_readPlan_33 : decode cX5_readPlan 33 = .ok (.aload_n 0, 1) := by decide +kernel
theorem dX5_readPlan_34 : decode cX5_readPlan 34 = .ok (.getfield 33, 3) := by decide +kernel
theorem dX5_readPlan_37 : decode cX5_readPlan 37 = .ok (.getfield 90, 3) := by decide +kernel
theorem dX5_readPlan_40 : decode cX5_readPlan 40 = .ok (.invokevirtual 135, 3) := by decide +kernel
theorem dX5_readPlan_43 : decode cX5_readPlan 43 = .ok (.istore_n 1, 1) := by decide +kernel
theorem dX5_readPlan_44 : decode cX5_readPlan 44 = .ok (.iload_n 1, 1) := by decide +kernel
theorem dX5_readPlan_45 : decode cX5_readPlan 45 = .ok (.iconst (-1), 1) := by decide +kernel
theorem dX5_readPlan_46 : decode cX5_readPlan 46 = .ok (.if_icmp .ne 5, 3) := by decide +kernel
theorem dX5_readPlan_49 : decode cX5_readPlan 49 = .ok (.iconst 0, 1) := by decide +kernel
theorem dX5_readPlan_50 : decode cX5_readPlan 50 = .ok (.ireturn, 1) := by decide +kernel
theorem dX5_readPlan_51 : decode cX5_readPlan 51 = .ok (.aload_n 0, 1) := by decide +kernel
theorem dX5_readPlan_52 : decode cX5_readPlan 52 = .ok (.getfield 29, 3) := by decide +kernel
theorem dX5_readPlan_55 : decode cX5_readPlan 55 = .ok (.invokevirtual 63, 3) := by decide +kernel
theorem dX5_readPlan_58 : decode cX5_readPlan 58 = .ok (.aload_n 0, 1) := by decide +kernel
theorem dX5_readPlan_59 : decode cX5_readPlan 59 = .ok (.aload_n 0, 1) := by decide +kernel
theorem dX5_readPlan_60 : decode cX5_readPlan 60 = .ok (.getfield 33, 3) := by decide +kernel
theorem dX5_readPlan_63 : decode cX5_readPlan 63 = .ok (.getfield 120, 3) := by decide +kernel
theorem dX5_readPlan_66 : decode cX5_readPlan 66 = .ok (.aload_n 0, 1) := by decide +kernel
theorem dX5_readPlan_67 : decode cX5_readPlan 67 = .ok (.getfield 33, 3) := by decide +kernel
theorem dX5_readPlan_70 : decode cX5_readPlan 70 = .ok (.getfield 117, 3) := by decide +kernel
theorem dX5_readPlan_73 : decode cX5_readPlan 73 = .ok (.invokevirtual 135, 3) := by decide +kernel
theorem dX5_readPlan_76 : decode cX5_readPlan 76 = .ok (.istore_n 2, 1) := by decide +kernel
theorem dX5_readPlan_77 : decode cX5_readPlan 77 = .ok (.iload_n 2, 1) := by decide +kernel
theorem dX5_readPlan_78 : decode cX5_readPlan 78 = .ok (.iconst (-1), 1) := by decide +kernel
theorem dX5_readPlan_79 : decode cX5_readPlan 79 = .ok (.if_icmp .ne 5, 3) := by decide +kernel
theorem dX5_readPlan_82 : decode cX5_readPlan 82 = .ok (.iconst 0, 1) := by decide +kernel
theorem dX5_readPlan_83 : decode cX5_readPlan 83 = .ok (.ireturn, 1) := by decide +kernel
theorem dX5_readPlan_84 : decode cX5_readPlan 84 = .ok (.aload_n 0, 1) := by decide +kernel
theorem dX5_readPlan_85 : decode cX5_readPlan 85 = .ok (.getfield 33, 3) := by decide +kernel
theorem dX5_readPlan_88 : decode cX5_readPlan 88 = .ok (.getfield 139, 3) := by decide +kernel
theorem dX5_readPlan_91 : decode cX5_readPlan 91 = .ok (.iload_n 1, 1) := by decide +kernel
theorem dX5_readPlan_92 : decode cX5_readPlan 92 = .ok (.bipush 6, 2) := by decide +kernel
theorem dX5_readPlan_94 : decode cX5_readPlan 94 = .ok (.imul, 1) := by decide +kernel
theorem dX5_readPlan_95 : decode cX5_readPlan 95 = .ok (.iload_n 2, 1) := by decide +kernel
theorem dX5_readPlan_96 : decode cX5_readPlan 96 = .ok (.iadd, 1) := by decide +kernel
theorem dX5_readPlan_97 : decode cX5_readPlan 97 = .ok (.iaload, 1) := by decide +kernel
theorem dX5_readPlan_98 : decode cX5_readPlan 98 = .ok (.ifCond .eq 9, 3) := by decide +kernel
theorem dX5_readPlan_101 : decode cX5_readPlan 101 = .ok (.aload_n 0, 1) := by decide +kernel
theorem dX5_readPlan_102 : decode cX5_readPlan 102 = .ok (.iconst 3, 1) := by decide +kernel
theorem dX5_readPlan_103 : decode cX5_readPlan 103 = .ok (.invokevirtual 59, 3) := by decide +kernel
theorem dX5_readPlan_106 : decode cX5_readPlan 106 = .ok (.ireturn, 1) := by decide +kernel
theorem dX5_readPlan_107 : decode cX5_readPlan 107 = .ok (.aload_n 0, 1) := by decide +kernel
theorem dX5_readPlan_108 : decode cX5_readPlan 108 = .ok (.getfield 29, 3) := by decide +kernel
theorem dX5_readPlan_111 : decode cX5_readPlan 111 = .ok (.invokevirtual 63, 3) := by decide +kernel
theorem dX5_readPlan_114 : decode cX5_readPlan 114 = .ok (.aload_n 0, 1) := by decide +kernel
theorem dX5_readPlan_115 : decode cX5_readPlan 115 = .ok (.iconst 1, 1) := by decide +kernel
theorem dX5_readPlan_116 : decode cX5_readPlan 116 = .ok (.bipush 9, 2) := by decide +kernel
theorem dX5_readPlan_118 : decode cX5_readPlan 118 = .ok (.invokevirtual 101, 3) := by decide +kernel
theorem dX5_readPlan_121 : decode cX5_readPlan 121 = .ok (.ifCond .ne 5, 3) := by decide +kernel
theorem dX5_readPlan_124 : decode cX5_readPlan 124 = .ok (.iconst 0, 1) := by decide +kernel
theorem dX5_readPlan_125 : decode cX5_readPlan 125 = .ok (.ireturn, 1) := by decide +kernel
theorem dX5_readPlan_126 : decode cX5_readPlan 126 = .ok (.aload_n 0, 1) := by decide +kernel
theorem dX5_readPlan_127 : decode cX5_readPlan 127 = .ok (.getfield 33, 3) := by decide +kernel
theorem dX5_readPlan_130 : decode cX5_readPlan 130 = .ok (.getfield 139, 3) := by decide +kernel
theorem dX5_readPlan_133 : decode cX5_readPlan 133 = .ok (.iload_n 1, 1) := by decide +kernel
theorem dX5_readPlan_134 : decode cX5_readPlan 134 = .ok (.bipush 6, 2) := by decide +kernel
theorem dX5_readPlan_136 : decode cX5_readPlan 136 = .ok (.imul, 1) := by decide +kernel
theorem dX5_readPlan_137 : decode cX5_readPlan 137 = .ok (.iload_n 2, 1) := by decide +kernel
theorem dX5_readPlan_138 : decode cX5_readPlan 138 = .ok (.iadd, 1) := by decide +kernel
theorem dX5_readPlan_139 : decode cX5_readPlan 139 = .ok (.aload_n 0, 1) := by decide +kernel
theorem dX5_readPlan_140 : decode cX5_readPlan 140 = .ok (.getfield 108, 3) := by decide +kernel
theorem dX5_readPlan_143 : decode cX5_readPlan 143 = .ok (.iastore, 1) := by decide +kernel
theorem dX5_readPlan_144 : decode cX5_readPlan 144 = .ok (.aload_n 0, 1) := by decide +kernel
theorem dX5_readPlan_145 : decode cX5_readPlan 145 = .ok (.getfield 33, 3) := by decide +kernel
theorem dX5_readPlan_148 : decode cX5_readPlan 148 = .ok (.dup, 1) := by decide +kernel
theorem dX5_readPlan_149 : decode cX5_readPlan 149 = .ok (.getfield 132, 3) := by decide +kernel
theorem dX5_readPlan_152 : decode cX5_readPlan 152 = .ok (.iconst 1, 1) := by decide +kernel
theorem dX5_readPlan_153 : decode cX5_readPlan 153 = .ok (.iadd, 1) := by decide +kernel
theorem dX5_readPlan_154 : decode cX5_readPlan 154 = .ok (.putfield 132, 3) := by decide +kernel
theorem dX5_readPlan_157 : decode cX5_readPlan 157 = .ok (.iconst 1, 1) := by decide +kernel
theorem dX5_readPlan_158 : decode cX5_readPlan 158 = .ok (.ireturn, 1) := by decide +kernel
theorem dX5_readBet_0 : decode cX5_readBet 0 = .ok (.aload_n 0, 1) := by decide +kernel
theorem dX5_readBet_1 : decode cX5_readBet 1 = .ok (.invokevirtual 142, 3) := by decide +kernel
theorem dX5_readBet_4 : decode cX5_readBet 4 = .ok (.ifCond .eq 14, 3) := by decide +kernel
theorem dX5_readBet_7 : decode cX5_readBet 7 = .ok (.aload_n 0, 1) := by decide +kernel
theorem dX5_readBet_8 : decode cX5_readBet 8 = .ok (.iconst 0, 1) := by decide +kernel
theorem dX5_readBet_9 : decode cX5_readBet 9 = .ok (.sipush 999, 3) := by decide +kernel
theorem dX5_readBet_12 : decode cX5_readBet 12 = .ok (.invokevirtual 101, 3) := by decide +kernel
theorem dX5_readBet_15 : decode cX5_readBet 15 = .ok (.ifCond .ne 5, 3) := by decide +kernel
theorem dX5_readBet_18 : decode cX5_readBet 18 = .ok (.iconst 0, 1) := by decide +kernel
theorem dX5_readBet_19 : decode cX5_readBet 19 = .ok (.ireturn, 1) := by decide +kernel
theorem dX5_readBet_20 : decode cX5_readBet 20 = .ok (.aload_n 0, 1) := by decide +kernel
theorem dX5_readBet_21 : decode cX5_readBet 21 = .ok (.getfield 33, 3) := by decide +kernel
theorem dX5_readBet_24 : decode cX5_readBet 24 = .ok (.aload_n 0, 1) := by decide +kernel
theorem dX5_readBet_25 : decode cX5_readBet 25 = .ok (.getfield 108, 3) := by decide +kernel
theorem dX5_readBet_28 : decode cX5_readBet 28 = .ok (.putfield 145, 3) := by decide +kernel
theorem dX5_readBet_31 : decode cX5_readBet 31 = .ok (.aload_n 0, 1) := by decide +kernel
theorem dX5_readBet_32 : decode cX5_readBet 32 = .ok (.iconst 1, 1) := by decide +kernel
theorem dX5_readBet_33 : decode cX5_readBet 33 = .ok (.bipush 14, 2) := by decide +kernel
theorem dX5_readBet_35 : decode cX5_readBet 35 = .ok (.invokevirtual 101, 3) := by decide +kernel
theorem dX5_readBet_38 : decode cX5_readBet 38 = .ok (.ifCond .ne 5, 3) := by decide +kernel
theorem dX5_readBet_41 : decode cX5_readBet 41 = .ok (.iconst 0, 1) := by decide +kernel
theorem dX5_readBet_42 : decode cX5_readBet 42 = .ok (.ireturn, 1) := by decide +kernel
theorem dX5_readBet_43 : decode cX5_readBet 43 = .ok (.aload_n 0, 1) := by decide +kernel
theorem dX5_readBet_44 : decode cX5_readBet 44 = .ok (.getfield 33, 3) := by decide +kernel
theorem dX5_readBet_47 : decode cX5_readBet 47 = .ok (.aload_n 0, 1) := by decide +kernel
theorem dX5_readBet_48 : decode cX5_readBet 48 = .ok (.getfield 108, 3) := by decide +kernel
theorem dX5_readBet_51 : decode cX5_readBet 51 = .ok (.putfield 148, 3) := by decide +kernel
theorem dX5_readBet_54 : decode cX5_readBet 54 = .ok (.iconst 1, 1) := by decide +kernel
theorem dX5_readBet_55 : decode cX5_readBet 55 = .ok (.ireturn, 1) := by decide +kernel
theorem dX5_readPay_0 : decode cX5_readPay 0 = .ok (.aload_n 0, 1) := by decide +kernel
theorem dX5_readPay_1 : decode cX5_readPay 1 = .ok (.invokevirtual 142, 3) := by decide +kernel
theorem dX5_readPay_4 : decode cX5_readPay 4 = .ok (.ifCond .eq 13, 3) := by decide +kernel
theorem dX5_readPay_7 : decode cX5_readPay 7 = .ok (.aload_n 0, 1) := by decide +kernel
theorem dX5_readPay_8 : decode cX5_readPay 8 = .ok (.iconst 0, 1) := by decide +kernel
theorem dX5_readPay_9 : decode cX5_readPay 9 = .ok (.bipush 99, 2) := by decide +kernel
theorem dX5_readPay_11 : decode cX5_readPay 11 = .ok (.invokevirtual 101, 3) := by decide +kernel
theorem dX5_readPay_14 : decode cX5_readPay 14 = .ok (.ifCond .ne 5, 3) := by decide +kernel
theorem dX5_readPay_17 : decode cX5_readPay 17 = .ok (.iconst 0, 1) := by decide +kernel
theorem dX5_readPay_18 : decode cX5_readPay 18 = .ok (.ireturn, 1) := by decide +kernel
theorem dX5_readPay_19 : decode cX5_readPay 19 = .ok (.aload_n 0, 1) := by decide +kernel
theorem dX5_readPay_20 : decode cX5_readPay 20 = .ok (.getfield 33, 3) := by decide +kernel
theorem dX5_readPay_23 : decode cX5_readPay 23 = .ok (.aload_n 0, 1) := by decide +kernel
theorem dX5_readPay_24 : decode cX5_readPay 24 = .ok (.getfield 108, 3) := by decide +kernel
theorem dX5_readPay_27 : decode cX5_readPay 27 = .ok (.putfield 151, 3) := by decide +kernel
theorem dX5_readPay_30 : decode cX5_readPay 30 = .ok (.aload_n 0, 1) := by decide +kernel
theorem dX5_readPay_31 : decode cX5_readPay 31 = .ok (.iconst 0, 1) := by decide +kernel
theorem dX5_readPay_32 : decode cX5_readPay 32 = .ok (.sipush 999, 3) := by decide +kernel
theorem dX5_readPay_35 : decode cX5_readPay 35 = .ok (.invokevirtual 101, 3) := by decide +kernel
theorem dX5_readPay_38 : decode cX5_readPay 38 = .ok (.ifCond .ne 5, 3) := by decide +kernel
theorem dX5_readPay_41 : decode cX5_readPay 41 = .ok (.iconst 0, 1) := by decide +kernel
theorem dX5_readPay_42 : decode cX5_readPay 42 = .ok (.ireturn, 1) := by decide +kernel
theorem dX5_readPay_43 : decode cX5_readPay 43 = .ok (.aload_n 0, 1) := by decide +kernel
theorem dX5_readPay_44 : decode cX5_readPay 44 = .ok (.getfield 33, 3) := by decide +kernel
theorem dX5_readPay_47 : decode cX5_readPay 47 = .ok (.aload_n 0, 1) := by decide +kernel
theorem dX5_readPay_48 : decode cX5_readPay 48 = .ok (.getfield 108, 3) := by decide +kernel
theorem dX5_readPay_51 : decode cX5_readPay 51 = .ok (.putfield 154, 3) := by decide +kernel
theorem dX5_readPay_54 : decode cX5_readPay 54 = .ok (.iconst 1, 1) := by decide +kernel
theorem dX5_readPay_55 : decode cX5_readPay 55 = .ok (.ireturn, 1) := by decide +kernel
theorem dX5_readRain_0 : decode cX5_readRain 0 = .ok (.aload_n 0, 1) := by decide +kernel
theorem dX5_readRain_1 : decode cX5_readRain 1 = .ok (.invokevirtual 142, 3) := by decide +kernel
theorem dX5_readRain_4 : decode cX5_readRain 4 = .ok (.ifCond .eq 13, 3) := by decide +kernel
theorem dX5_readRain_7 : decode cX5_readRain 7 = .ok (.aload_n 0, 1) := by decide +kernel
theorem dX5_readRain_8 : decode cX5_readRain 8 = .ok (.iconst 0, 1) := by decide +kernel
theorem dX5_readRain_9 : decode cX5_readRain 9 = .ok (.bipush 100, 2) := by decide +kernel
theorem dX5_readRain_11 : decode cX5_readRain 11 = .ok (.invokevirtual 101, 3) := by decide +kernel
theorem dX5_readRain_14 : decode cX5_readRain 14 = .ok (.ifCond .ne 5, 3) := by decide +kernel
theorem dX5_readRain_17 : decode cX5_readRain 17 = .ok (.iconst 0, 1) := by decide +kernel
theorem dX5_readRain_18 : decode cX5_readRain 18 = .ok (.ireturn, 1) := by decide +kernel
theorem dX5_readRain_19 : decode cX5_readRain 19 = .ok (.aload_n 0, 1) := by decide +kernel
theorem dX5_readRain_20 : decode cX5_readRain 20 = .ok (.getfield 33, 3) := by decide +kernel
theorem dX5_readRain_23 : decode cX5_readRain 23 = .ok (.aload_n 0, 1) := by decide +kernel
theorem dX5_readRain_24 : decode cX5_readRain 24 = .ok (.getfield 108, 3) := by decide +kernel
theorem dX5_readRain_27 : decode cX5_readRain 27 = .ok (.putfield 157, 3) := by decide +kernel
theorem dX5_readRain_30 : decode cX5_readRain 30 = .ok (.iconst 1, 1) := by decide +kernel
theorem dX5_readRain_31 : decode cX5_readRain 31 = .ok (.ireturn, 1) := by decide +kernel
theorem dX5_readSeed_0 : decode cX5_readSeed 0 = .ok (.aload_n 0, 1) := by decide +kernel
theorem dX5_readSeed_1 : decode cX5_readSeed 1 = .ok (.invokevirtual 142, 3) := by decide +kernel
theorem dX5_readSeed_4 : decode cX5_readSeed 4 = .ok (.ifCond .eq 13, 3) := by decide +kernel
theorem dX5_readSeed_7 : decode cX5_readSeed 7 = .ok (.aload_n 0, 1) := by decide +kernel
theorem dX5_readSeed_8 : decode cX5_readSeed 8 = .ok (.iconst 0, 1) := by decide +kernel
theorem dX5_readSeed_9 : decode cX5_readSeed 9 = .ok (.ldc 160, 2) := by decide +kernel
theorem dX5_readSeed_11 : decode cX5_readSeed 11 = .ok (.invokevirtual 101, 3) := by decide +kernel
theorem dX5_readSeed_14 : decode cX5_readSeed 14 = .ok (.ifCond .ne 5, 3) := by decide +kernel
theorem dX5_readSeed_17 : decode cX5_readSeed 17 = .ok (.iconst 0, 1) := by decide +kernel
theorem dX5_readSeed_18 : decode cX5_readSeed 18 = .ok (.ireturn, 1) := by decide +kernel
theorem dX5_readSeed_19 : decode cX5_readSeed 19 = .ok (.aload_n 0, 1) := by decide +kernel
theorem dX5_readSeed_20 : decode cX5_readSeed 20 = .ok (.getfield 33, 3) := by decide +kernel
theorem dX5_readSeed_23 : decode cX5_readSeed 23 = .ok (.aload_n 0, 1) := by decide +kernel
theorem dX5_readSeed_24 : decode cX5_readSeed 24 = .ok (.getfield 108, 3) := by decide +kernel
theorem dX5_readSeed_27 : decode cX5_readSeed 27 = .ok (.putfield 161, 3) := by decide +kernel
theorem dX5_readSeed_30 : decode cX5_readSeed 30 = .ok (.iconst 1, 1) := by decide +kernel
theorem dX5_readSeed_31 : decode cX5_readSeed 31 = .ok (.ireturn, 1) := by decide +kernel
theorem dX5_readLaw_0 : decode cX5_readLaw 0 = .ok (.aload_n 0, 1) := by decide +kernel
theorem dX5_readLaw_1 : decode cX5_readLaw 1 = .ok (.getfield 29, 3) := by decide +kernel
theorem dX5_readLaw_4 : decode cX5_readLaw 4 = .ok (.invokevirtual 63, 3) := by decide +kernel
theorem dX5_readLaw_7 : decode cX5_readLaw 7 = .ok (.aload_n 0, 1) := by decide +kernel
theorem dX5_readLaw_8 : decode cX5_readLaw 8 = .ok (.getfield 29, 3) := by decide +kernel
theorem dX5_readLaw_11 : decode cX5_readLaw 11 = .ok (.getfield 48, 3) := by decide +kernel
theorem dX5_readLaw_14 : decode cX5_readLaw 14 = .ok (.bipush 8, 2) := by decide +kernel
theorem dX5_readLaw_16 : decode cX5_readLaw 16 = .ok (.bipush 10, 2) := by decide +kernel
theorem dX5_readLaw_18 : decode cX5_readLaw 18 = .ok (.invokestatic 164, 3) := by decide +kernel
theorem dX5_readLaw_21 : decode cX5_readLaw 21 = .ok (.ifCond .ne 9, 3) := by decide +kernel
theorem dX5_readLaw_24 : decode cX5_readLaw 24 = .ok (.aload_n 0, 1) := by decide +kernel
theorem dX5_readLaw_25 : decode cX5_readLaw 25 = .ok (.iconst 1, 1) := by decide +kernel
theorem dX5_readLaw_26 : decode cX5_readLaw 26 = .ok (.invokevirtual 59, 3) := by decide +kernel
theorem dX5_readLaw_29 : decode cX5_readLaw 29 = .ok (.ireturn, 1) := by decide +kernel
theorem dX5_readLaw_30 : decode cX5_readLaw 30 = .ok (.aload_n 0, 1) := by decide +kernel
theorem dX5_readLaw_31 : decode cX5_readLaw 31 = .ok (.getfield 29, 3) := by decide +kernel
theorem dX5_readLaw_34 : decode cX5_readLaw 34 = .ok (.getfield 48, 3) := by decide +kernel
theorem dX5_readLaw_37 : decode cX5_readLaw 37 = .ok (.bipush 8, 2) := by decide +kernel
theorem dX5_readLaw_39 : decode cX5_readLaw 39 = .ok (.isub, 1) := by decide +kernel
theorem dX5_readLaw_40 : decode cX5_readLaw 40 = .ok (.istore_n 1, 1) := by decide +kernel
theorem dX5_readLaw_41 : decode cX5_readLaw 41 = .ok (.aload_n 0, 1) := by decide +kernel
theorem dX5_readLaw_42 : decode cX5_readLaw 42 = .ok (.getfield 33, 3) := by decide +kernel
theorem dX5_readLaw_45 : decode cX5_readLaw 45 = .ok (.getfield 168, 3) := by decide +kernel
theorem dX5_readLaw_48 : decode cX5_readLaw 48 = .ok (.iload_n 1, 1) := by decide +kernel
theorem dX5_readLaw_49 : decode cX5_readLaw 49 = .ok (.invokevirtual 172, 3) := by decide +kernel
theorem dX5_readLaw_52 : decode cX5_readLaw 52 = .ok (.ifCond .eq 9, 3) := by decide +kernel
theorem dX5_readLaw_55 : decode cX5_readLaw 55 = .ok (.aload_n 0, 1) := by decide +kernel
theorem dX5_readLaw_56 : decode cX5_readLaw 56 = .ok (.iconst 3, 1) := by decide +kernel
theorem dX5_readLaw_57 : decode cX5_readLaw 57 = .ok (.invokevirtual 59, 3) := by decide +kernel
theorem dX5_readLaw_60 : decode cX5_readLaw 60 = .ok (.ireturn, 1) := by decide +kernel
theorem dX5_readLaw_61 : decode cX5_readLaw 61 = .ok (.aload_n 0, 1) := by decide +kernel
theorem dX5_readLaw_62 : decode cX5_readLaw 62 = .ok (.getfield 29, 3) := by decide +kernel
theorem dX5_readLaw_65 : decode cX5_readLaw 65 = .ok (.invokevirtual 63, 3) := by decide +kernel
theorem dX5_readLaw_68 : decode cX5_readLaw 68 = .ok (.aload_n 0, 1) := by decide +kernel
theorem dX5_readLaw_69 : decode cX5_readLaw 69 = .ok (.getfield 12, 3) := by decide +kernel
theorem dX5_readLaw_72 : decode cX5_readLaw 72 = .ok (.aload_n 0, 1) := by decide +kernel
theorem dX5_readLaw_73 : decode cX5_readLaw 73 = .ok (.getfield 33, 3) := by decide +kernel
theorem dX5_readLaw_76 : decode cX5_readLaw 76 = .ok (.getfield 168, 3) := by decide +kernel
theorem dX5_readLaw_79 : decode cX5_readLaw 79 = .ok (.iload_n 1, 1) := by decide +kernel
theorem dX5_readLaw_80 : decode cX5_readLaw 80 = .ok (.aload_n 0, 1) := by decide +kernel
theorem dX5_readLaw_81 : decode cX5_readLaw 81 = .ok (.getfield 29, 3) := by decide +kernel
theorem dX5_readLaw_84 : decode cX5_readLaw 84 = .ok (.invokevirtual 177, 3) := by decide +kernel
theorem dX5_readLaw_87 : decode cX5_readLaw 87 = .ok (.istore_n 2, 1) := by decide +kernel
theorem dX5_readLaw_88 : decode cX5_readLaw 88 = .ok (.iload_n 2, 1) := by decide +kernel
theorem dX5_readLaw_89 : decode cX5_readLaw 89 = .ok (.ifCond .eq 11, 3) := by decide +kernel
theorem dX5_readLaw_92 : decode cX5_readLaw 92 = .ok (.aload_n 0, 1) := by decide +kernel
theorem dX5_readLaw_93 : decode cX5_readLaw 93 = .ok (.iload_n 2, 1) := by decide +kernel
theorem dX5_readLaw_94 : decode cX5_readLaw 94 = .ok (.invokevirtual 59, 3) := by decide +kernel
theorem dX5_readLaw_97 : decode cX5_readLaw 97 = .ok (.ifCond .eq 7, 3) := by decide +kernel
theorem dX5_readLaw_100 : decode cX5_readLaw 100 = .ok (.iconst 1, 1) := by decide +kernel
theorem dX5_readLaw_101 : decode cX5_readLaw 101 = .ok (.goto 4, 3) := by decide +kernel
theorem dX5_readLaw_104 : decode cX5_readLaw 104 = .ok (.iconst 0, 1) := by decide +kernel
theorem dX5_readLaw_105 : decode cX5_readLaw 105 = .ok (.ireturn, 1) := by decide +kernel
theorem dX5_readOnce_0 : decode cX5_readOnce 0 = .ok (.aload_n 0, 1) := by decide +kernel
theorem dX5_readOnce_1 : decode cX5_readOnce 1 = .ok (.getfield 29, 3) := by decide +kernel
theorem dX5_readOnce_4 : decode cX5_readOnce 4 = .ok (.getfield 48, 3) := by decide +kernel
theorem dX5_readOnce_7 : decode cX5_readOnce 7 = .ok (.iconst 3, 1) := by decide +kernel
theorem dX5_readOnce_8 : decode cX5_readOnce 8 = .ok (.isub, 1) := by decide +kernel
theorem dX5_readOnce_9 : decode cX5_readOnce 9 = .ok (.istore_n 1, 1) := by decide +kernel
theorem dX5_readOnce_10 : decode cX5_readOnce 10 = .ok (.iload_n 1, 1) := by decide +kernel
theorem dX5_readOnce_11 : decode cX5_readOnce 11 = .ok (.iconst 0, 1) := by decide +kernel
theorem dX5_readOnce_12 : decode cX5_readOnce 12 = .ok (.aload_n 0, 1) := by decide +kernel
theorem dX5_readOnce_13 : decode cX5_readOnce 13 = .ok (.getfield 18, 3) := by decide +kernel
theorem dX5_readOnce_16 : decode cX5_readOnce 16 = .ok (.arraylength, 1) := by decide +kernel
theorem dX5_readOnce_17 : decode cX5_readOnce 17 = .ok (.iconst 1, 1) := by decide +kernel
theorem dX5_readOnce_18 : decode cX5_readOnce 18 = .ok (.isub, 1) := by decide +kernel
theorem dX5_readOnce_19 : decode cX5_readOnce 19 = .ok (.invokestatic 164, 3) := by decide +kernel
theorem dX5_readOnce_22 : decode cX5_readOnce 22 = .ok (.ifCond .ne 9, 3) := by decide +kernel
theorem dX5_readOnce_25 : decode cX5_readOnce 25 = .ok (.aload_n 0, 1) := by decide +kernel
theorem dX5_readOnce_26 : decode cX5_readOnce 26 = .ok (.iconst 1, 1) := by decide +kernel
theorem dX5_readOnce_27 : decode cX5_readOnce 27 = .ok (.invokevirtual 59, 3) := by decide +kernel
theorem dX5_readOnce_30 : decode cX5_readOnce 30 = .ok (.ireturn, 1) := by decide +kernel
theorem dX5_readOnce_31 : decode cX5_readOnce 31 = .ok (.aload_n 0, 1) := by decide +kernel
theorem dX5_readOnce_32 : decode cX5_readOnce 32 = .ok (.getfield 18, 3) := by decide +kernel
theorem dX5_readOnce_35 : decode cX5_readOnce 35 = .ok (.iload_n 1, 1) := by decide +kernel
theorem dX5_readOnce_36 : decode cX5_readOnce 36 = .ok (.baload, 1) := by decide +kernel
theorem dX5_readOnce_37 : decode cX5_readOnce 37 = .ok (.ifCond .eq 9, 3) := by decide +kernel
theorem dX5_readOnce_40 : decode cX5_readOnce 40 = .ok (.aload_n 0, 1) := by decide +kernel
theorem dX5_readOnce_41 : decode cX5_readOnce 41 = .ok (.iconst 3, 1) := by decide +kernel
theorem dX5_readOnce_42 : decode cX5_readOnce 42 = .ok (.invokevirtual 59, 3) := by decide +kernel
theorem dX5_readOnce_45 : decode cX5_readOnce 45 = .ok (.ireturn, 1) := by decide +kernel
theorem dX5_readOnce_46 : decode cX5_readOnce 46 = .ok (.aload_n 0, 1) := by decide +kernel
theorem dX5_readOnce_47 : decode cX5_readOnce 47 = .ok (.getfield 18, 3) := by decide +kernel
theorem dX5_readOnce_50 : decode cX5_readOnce 50 = .ok (.iload_n 1, 1) := by decide +kernel
theorem dX5_readOnce_51 : decode cX5_readOnce 51 = .ok (.iconst 1, 1) := by decide +kernel
theorem dX5_readOnce_52 : decode cX5_readOnce 52 = .ok (.bastore, 1) := by decide +kernel
theorem dX5_readOnce_53 : decode cX5_readOnce 53 = .ok (.aload_n 0, 1) := by decide +kernel
theorem dX5_readOnce_54 : decode cX5_readOnce 54 = .ok (.getfield 29, 3) := by decide +kernel
theorem dX5_readOnce_57 : decode cX5_readOnce 57 = .ok (.invokevirtual 63, 3) := by decide +kernel
theorem dX5_readOnce_60 : decode cX5_readOnce 60 = .ok (.iconst 1, 1) := by decide +kernel
theorem dX5_readOnce_61 : decode cX5_readOnce 61 = .ok (.ireturn, 1) := by decide +kernel
theorem dX5_readNumber_0 : decode cX5_readNumber 0 = .ok (.aload_n 0, 1) := by decide +kernel
theorem dX5_readNumber_1 : decode cX5_readNumber 1 = .ok (.getfield 29, 3) := by decide +kernel
theorem dX5_readNumber_4 : decode cX5_readNumber 4 = .ok (.getfield 48, 3) := by decide +kernel
theorem dX5_readNumber_7 : decode cX5_readNumber 7 = .ok (.bipush 34, 2) := by decide +kernel
theorem dX5_readNumber_9 : decode cX5_readNumber 9 = .ok (.if_icmp .eq 9, 3) := by decide +kernel
theorem dX5_readNumber_12 : decode cX5_readNumber 12 = .ok (.aload_n 0, 1) := by decide +kernel
theorem dX5_readNumber_13 : decode cX5_readNumber 13 = .ok (.iconst 1, 1) := by decide +kernel
theorem dX5_readNumber_14 : decode cX5_readNumber 14 = .ok (.invokevirtual 59, 3) := by decide +kernel
theorem dX5_readNumber_17 : decode cX5_readNumber 17 = .ok (.ireturn, 1) := by decide +kernel
theorem dX5_readNumber_18 : decode cX5_readNumber 18 = .ok (.aload_n 0, 1) := by decide +kernel
theorem dX5_readNumber_19 : decode cX5_readNumber 19 = .ok (.getfield 29, 3) := by decide +kernel
theorem dX5_readNumber_22 : decode cX5_readNumber 22 = .ok (.getfield 181, 3) := by decide +kernel
theorem dX5_readNumber_25 : decode cX5_readNumber 25 = .ok (.iload_n 1, 1) := by decide +kernel
theorem dX5_readNumber_26 : decode cX5_readNumber 26 = .ok (.iload_n 2, 1) := by decide +kernel
theorem dX5_readNumber_27 : decode cX5_readNumber 27 = .ok (.invokestatic 164, 3) := by decide +kernel
theorem dX5_readNumber_30 : decode cX5_readNumber 30 = .ok (.ifCond .ne 9, 3) := by decide +kernel
theorem dX5_readNumber_33 : decode cX5_readNumber 33 = .ok (.aload_n 0, 1) := by decide +kernel
theorem dX5_readNumber_34 : decode cX5_readNumber 34 = .ok (.iconst 2, 1) := by decide +kernel
theorem dX5_readNumber_35 : decode cX5_readNumber 35 = .ok (.invokevirtual 59, 3) := by decide +kernel
theorem dX5_readNumber_38 : decode cX5_readNumber 38 = .ok (.ireturn, 1) := by decide +kernel
theorem dX5_readNumber_39 : decode cX5_readNumber 39 = .ok (.aload_n 0, 1) := by decide +kernel
theorem dX5_readNumber_40 : decode cX5_readNumber 40 = .ok (.aload_n 0, 1) := by decide +kernel
theorem dX5_readNumber_41 : decode cX5_readNumber 41 = .ok (.getfield 29, 3) := by decide +kernel
theorem dX5_readNumber_44 : decode cX5_readNumber 44 = .ok (.getfield 181, 3) := by decide +kernel
theorem dX5_readNumber_47 : decode cX5_readNumber 47 = .ok (.putfield 108, 3) := by decide +kernel
theorem dX5_readNumber_50 : decode cX5_readNumber 50 = .ok (.aload_n 0, 1) := by decide +kernel
theorem dX5_readNumber_51 : decode cX5_readNumber 51 = .ok (.getfield 29, 3) := by decide +kernel
theorem dX5_readNumber_54 : decode cX5_readNumber 54 = .ok (.invokevirtual 63, 3) := by decide +kernel
theorem dX5_readNumber_57 : decode cX5_readNumber 57 = .ok (.iconst 1, 1) := by decide +kernel
theorem dX5_readNumber_58 : decode cX5_readNumber 58 = .ok (.ireturn, 1) := by decide +kernel
theorem dX5_readNewName_0 : decode cX5_readNewName 0 = .ok (.aload_n 0, 1) := by decide +kernel
theorem dX5_readNewName_1 : decode cX5_readNewName 1 = .ok (.getfield 29, 3) := by decide +kernel
theorem dX5_readNewName_4 : decode cX5_readNewName 4 = .ok (.getfield 48, 3) := by decide +kernel
theorem dX5_readNewName_7 : decode cX5_readNewName 7 = .ok (.bipush 35, 2) := by decide +kernel
theorem dX5_readNewName_9 : decode cX5_readNewName 9 = .ok (.if_icmp .eq 9, 3) := by decide +kernel
theorem dX5_readNewName_12 : decode cX5_readNewName 12 = .ok (.aload_n 0, 1) := by decide +kernel
theorem dX5_readNewName_13 : decode cX5_readNewName 13 = .ok (.iconst 1, 1) := by decide +kernel
theorem dX5_readNewName_14 : decode cX5_readNewName 14 = .ok (.invokevirtual 59, 3) := by decide +kernel
theorem dX5_readNewName_17 : decode cX5_readNewName 17 = .ok (.ireturn, 1) := by decide +kernel
theorem dX5_readNewName_18 : decode cX5_readNewName 18 = .ok (.aload_n 0, 1) := by decide +kernel
theorem dX5_readNewName_19 : decode cX5_readNewName 19 = .ok (.getfield 29, 3) := by decide +kernel
theorem dX5_readNewName_22 : decode cX5_readNewName 22 = .ok (.getfield 181, 3) := by decide +kernel
theorem dX5_readNewName_25 : decode cX5_readNewName 25 = .ok (.aload_n 1, 1) := by decide +kernel
theorem dX5_readNewName_26 : decode cX5_readNewName 26 = .ok (.iload_n 2, 1) := by decide +kernel
theorem dX5_readNewName_27 : decode cX5_readNewName 27 = .ok (.invokestatic 184, 3) := by decide +kernel
theorem dX5_readNewName_30 : decode cX5_readNewName 30 = .ok (.iconst (-1), 1) := by decide +kernel
theorem dX5_readNewName_31 : decode cX5_readNewName 31 = .ok (.if_icmp .eq 9, 3) := by decide +kernel
theorem dX5_readNewName_34 : decode cX5_readNewName 34 = .ok (.aload_n 0, 1) := by decide +kernel
theorem dX5_readNewName_35 : decode cX5_readNewName 35 = .ok (.iconst 3, 1) := by decide +kernel
theorem dX5_readNewName_36 : decode cX5_readNewName 36 = .ok (.invokevirtual 59, 3) := by decide +kernel
theorem dX5_readNewName_39 : decode cX5_readNewName 39 = .ok (.ireturn, 1) := by decide +kernel
theorem dX5_readNewName_40 : decode cX5_readNewName 40 = .ok (.iload_n 2, 1) := by decide +kernel
theorem dX5_readNewName_41 : decode cX5_readNewName 41 = .ok (.aload_n 1, 1) := by decide +kernel
theorem dX5_readNewName_42 : decode cX5_readNewName 42 = .ok (.arraylength, 1) := by decide +kernel
theorem dX5_readNewName_43 : decode cX5_readNewName 43 = .ok (.if_icmp .ge 13, 3) := by decide +kernel
theorem dX5_readNewName_46 : decode cX5_readNewName 46 = .ok (.aload_n 1, 1) := by decide +kernel
theorem dX5_readNewName_47 : decode cX5_readNewName 47 = .ok (.iload_n 2, 1) := by decide +kernel
theorem dX5_readNewName_48 : decode cX5_readNewName 48 = .ok (.aload_n 0, 1) := by decide +kernel
theorem dX5_readNewName_49 : decode cX5_readNewName 49 = .ok (.getfield 29, 3) := by decide +kernel
theorem dX5_readNewName_52 : decode cX5_readNewName 52 = .ok (.getfield 181, 3) := by decide +kernel
theorem dX5_readNewName_55 : decode cX5_readNewName 55 = .ok (.iastore, 1) := by decide +kernel
theorem dX5_readNewName_56 : decode cX5_readNewName 56 = .ok (.aload_n 0, 1) := by decide +kernel
theorem dX5_readNewName_57 : decode cX5_readNewName 57 = .ok (.getfield 29, 3) := by decide +kernel
theorem dX5_readNewName_60 : decode cX5_readNewName 60 = .ok (.invokevirtual 63, 3) := by decide +kernel
theorem dX5_readNewName_63 : decode cX5_readNewName 63 = .ok (.iconst 1, 1) := by decide +kernel
theorem dX5_readNewName_64 : decode cX5_readNewName 64 = .ok (.ireturn, 1) := by decide +kernel
theorem dX5_findName_0 : decode cX5_findName 0 = .ok (.aload_n 0, 1) := by decide +kernel
theorem dX5_findName_1 : decode cX5_findName 1 = .ok (.getfield 29, 3) := by decide +kernel
theorem dX5_findName_4 : decode cX5_findName 4 = .ok (.getfield 48, 3) := by decide +kernel
theorem dX5_findName_7 : decode cX5_findName 7 = .ok (.bipush 35, 2) := by decide +kernel
theorem dX5_findName_9 : decode cX5_findName 9 = .ok (.if_icmp .eq 11, 3) := by decide +kernel
theorem dX5_findName_12 : decode cX5_findName 12 = .ok (.aload_n 0, 1) := by decide +kernel
theorem dX5_findName_13 : decode cX5_findName 13 = .ok (.iconst 1, 1) := by decide +kernel
theorem dX5_findName_14 : decode cX5_findName 14 = .ok (.invokevirtual 59, 3) := by decide +kernel
theorem dX5_findName_17 : decode cX5_findName 17 = .ok (.pop, 1) := by decide +kernel
theorem dX5_findName_18 : decode cX5_findName 18 = .ok (.iconst (-1), 1) := by decide +kernel
theorem dX5_findName_19 : decode cX5_findName 19 = .ok (.ireturn, 1) := by decide +kernel
theorem dX5_findName_20 : decode cX5_findName 20 = .ok (.aload_n 0, 1) := by decide +kernel
theorem dX5_findName_21 : decode cX5_findName 21 = .ok (.getfield 29, 3) := by decide +kernel
theorem dX5_findName_24 : decode cX5_findName 24 = .ok (.getfield 181, 3) := by decide +kernel
theorem dX5_findName_27 : decode cX5_findName 27 = .ok (.aload_n 1, 1) := by decide +kernel
theorem dX5_findName_28 : decode cX5_findName 28 = .ok (.iload_n 2, 1) := by decide +kernel
theorem dX5_findName_29 : decode cX5_findName 29 = .ok (.invokestatic 184, 3) := by decide +kernel
theorem dX5_findName_32 : decode cX5_findName 32 = .ok (.istore_n 3, 1) := by decide +kernel
theorem dX5_findName_33 : decode cX5_findName 33 = .ok (.iload_n 3, 1) := by decide +kernel
theorem dX5_findName_34 : decode cX5_findName 34 = .ok (.iconst (-1), 1) := by decide +kernel
theorem dX5_findName_35 : decode cX5_findName 35 = .ok (.if_icmp .ne 9, 3) := by decide +kernel
theorem dX5_findName_38 : decode cX5_findName 38 = .ok (.aload_n 0, 1) := by decide +kernel
theorem dX5_findName_39 : decode cX5_findName 39 = .ok (.iconst 4, 1) := by decide +kernel
theorem dX5_findName_40 : decode cX5_findName 40 = .ok (.invokevirtual 59, 3) := by decide +kernel
theorem dX5_findName_43 : decode cX5_findName 43 = .ok (.pop, 1) := by decide +kernel
theorem dX5_findName_44 : decode cX5_findName 44 = .ok (.iload_n 3, 1) := by decide +kernel
theorem dX5_findName_45 : decode cX5_findName 45 = .ok (.ireturn, 1) := by decide +kernel
theorem dX6_init_0 : decode cX6_init 0 = .ok (.aload_n 0, 1) := by decide +kernel
theorem dX6_init_1 : decode cX6_init 1 = .ok (.invokespecial 3, 3) := by decide +kernel
theorem dX6_init_4 : decode cX6_init 4 = .ok (.aload_n 0, 1) := by decide +kernel
theorem dX6_init_5 : decode cX6_init 5 = .ok (.sipush 700, 3) := by decide +kernel
theorem dX6_init_8 : decode cX6_init 8 = .ok (.newarray .byte, 2) := by decide +kernel
theorem dX6_init_10 : decode cX6_init 10 = .ok (.putfield 9, 3) := by decide +kernel
theorem dX6_init_13 : decode cX6_init 13 = .ok (.aload_n 0, 1) := by decide +kernel
theorem dX6_init_14 : decode cX6_init 14 = .ok (.bipush 21, 2) := by decide +kernel
theorem dX6_init_16 : decode cX6_init 16 = .ok (.newarray .int, 2) := by decide +kernel
theorem dX6_init_18 : decode cX6_init 18 = .ok (.putfield 15, 3) := by decide +kernel
theorem dX6_init_21 : decode cX6_init 21 = .ok (.iconst 0, 1) := by decide +kernel
theorem dX6_init_22 : decode cX6_init 22 = .ok (.istore_n 1, 1) := by decide +kernel
theorem dX6_init_23 : decode cX6_init 23 = .ok (.iconst 0, 1) := by decide +kernel
theorem dX6_init_24 : decode cX6_init 24 = .ok (.istore_n 2, 1) := by decide +kernel
theorem dX6_init_25 : decode cX6_init 25 = .ok (.iconst 0, 1) := by decide +kernel
theorem dX6_init_26 : decode cX6_init 26 = .ok (.istore_n 3, 1) := by decide +kernel
theorem dX6_init_27 : decode cX6_init 27 = .ok (.iload_n 3, 1) := by decide +kernel
theorem dX6_init_28 : decode cX6_init 28 = .ok (.ldc 19, 2) := by decide +kernel
theorem dX6_init_30 : decode cX6_init 30 = .ok (.invokevirtual 21, 3) := by decide +kernel
theorem dX6_init_33 : decode cX6_init 33 = .ok (.if_icmp .ge 56, 3) := by decide +kernel
theorem dX6_init_36 : decode cX6_init 36 = .ok (.iload_n 1, 1) := by decide +kernel
theorem dX6_init_37 : decode cX6_init 37 = .ok (.bipush 21, 2) := by decide +kernel
theorem dX6_init_39 : decode cX6_init 39 = .ok (.if_icmp .ge 50, 3) := by decide +kernel
theorem dX6_init_42 : decode cX6_init 42 = .ok (.ldc 19, 2) := by decide +kernel
theorem dX6_init_44 : decode cX6_init 44 = .ok (.iload_n 3, 1) := by decide +kernel
theorem dX6_init_45 : decode cX6_init 45 = .ok (.invokevirtual 27, 3) := by decide +kernel
theorem dX6_init_48 : decode cX6_init 48 = .ok (.bipush 32, 2) := by decide +kernel
theorem dX6_init_50 : decode cX6_init 50 = .ok (.if_icmp .ne 11, 3) := by decide +kernel
theorem dX6_init_53 : decode cX6_init 53 = .ok (.iinc 1 1, 3) := by decide +kernel
theorem dX6_init_56 : decode cX6_init 56 = .ok (.iconst 0, 1) := by decide +kernel
theorem dX6_init_57 : decode cX6_init 57 = .ok (.istore_n 2, 1) := by decide +kernel
theorem dX6_init_58 : decode cX6_init 58 = .ok (.goto 25, 3) := by decide +kernel
theorem dX6_init_61 : decode cX6_init 61 = .ok (.aload_n 0, 1) := by decide +kernel
theorem dX6_init_62 : decode cX6_init 62 = .ok (.getfield 15, 3) := by decide +kernel
theorem dX6_init_65 : decode cX6_init 65 = .ok (.iload_n 1, 1) := by decide +kernel
theorem dX6_init_66 : decode cX6_init 66 = .ok (.dup2, 1) := by decide +kernel
theorem dX6_init_67 : decode cX6_init 67 = .ok (.iaload, 1) := by decide +kernel
theorem dX6_init_68 : decode cX6_init 68 = .ok (.ldc 19, 2) := by decide +kernel
theorem dX6_init_70 : decode cX6_init 70 = .ok (.iload_n 3, 1) := by decide +kernel
theorem dX6_init_71 : decode cX6_init 71 = .ok (.invokevirtual 27, 3) := by decide +kernel
theorem dX6_init_74 : decode cX6_init 74 = .ok (.iload_n 2, 1) := by decide +kernel
theorem dX6_init_75 : decode cX6_init 75 = .ok (.invokestatic 31, 3) := by decide +kernel
theorem dX6_init_78 : decode cX6_init 78 = .ok (.ior, 1) := by decide +kernel
theorem dX6_init_79 : decode cX6_init 79 = .ok (.iastore, 1) := by decide +kernel
theorem dX6_init_80 : decode cX6_init 80 = .ok (.iinc 2 1, 3) := by decide +kernel
theorem dX6_init_83 : decode cX6_init 83 = .ok (.iinc 3 1, 3) := by decide +kernel
theorem dX6_init_86 : decode cX6_init 86 = .ok (.goto (-59), 3) := by decide +kernel
theorem dX6_init_89 : decode cX6_init 89 = .ok (.return_, 1) := by decide +kernel
theorem dX6_hasRoom_0 : decode cX6_hasRoom 0 = .ok (.aload_n 0, 1) := by decide +kernel
theorem dX6_hasRoom_1 : decode cX6_hasRoom 1 = .ok (.getfield 35, 3) := by decide +kernel
theorem dX6_hasRoom_4 : decode cX6_hasRoom 4 = .ok (.bipush 20, 2) := by decide +kernel
theorem dX6_hasRoom_6 : decode cX6_hasRoom 6 = .ok (.iadd, 1) := by decide +kernel
theorem dX6_hasRoom_7 : decode cX6_hasRoom 7 = .ok (.sipush 700, 3) := by decide +kernel
theorem dX6_hasRoom_10 : decode cX6_hasRoom 10 = .ok (.if_icmp .gt 7, 3) := by decide +kernel
theorem dX6_hasRoom_13 : decode cX6_hasRoom 13 = .ok (.iconst 1, 1) := by decide +kernel
theorem dX6_hasRoom_14 : decode cX6_hasRoom 14 = .ok (.goto 4, 3) := by decide +kernel
theorem dX6_hasRoom_17 : decode cX6_hasRoom 17 = .ok (.iconst 0, 1) := by decide +kernel
theorem dX6_hasRoom_18 : decode cX6_hasRoom 18 = .ok (.ireturn, 1) := by decide +kernel
theorem dX6_append_0 : decode cX6_append 0 = .ok (.bipush 24, 2) := by decide +kernel
theorem dX6_append_2 : decode cX6_append 2 = .ok (.istore_n 2, 1) := by decide +kernel
theorem dX6_append_3 : decode cX6_append 3 = .ok (.iload_n 2, 1) := by decide +kernel
theorem dX6_append_4 : decode cX6_append 4 = .ok (.ifCond .lt 42, 3) := by decide +kernel
theorem dX6_append_7 : decode cX6_append 7 = .ok (.aload_n 0, 1) := by decide +kernel
theorem dX6_append_8 : decode cX6_append 8 = .ok (.getfield 35, 3) := by decide +kernel
theorem dX6_append_11 : decode cX6_append 11 = .ok (.sipush 700, 3) := by decide +kernel
theorem dX6_append_14 : decode cX6_append 14 = .ok (.if_icmp .ge 32, 3) := by decide +kernel
theorem dX6_append_17 : decode cX6_append 17 = .ok (.aload_n 0, 1) := by decide +kernel
theorem dX6_append_18 : decode cX6_append 18 = .ok (.getfield 9, 3) := by decide +kernel
theorem dX6_append_21 : decode cX6_append 21 = .ok (.aload_n 0, 1) := by decide +kernel
theorem dX6_append_22 : decode cX6_append 22 = .ok (.getfield 35, 3) := by decide +kernel
theorem dX6_append_25 : decode cX6_append 25 = .ok (.iload_n 1, 1) := by decide +kernel
theorem dX6_append_26 : decode cX6_append 26 = .ok (.iload_n 2, 1) := by decide +kernel
theorem dX6_append_27 : decode cX6_append 27 = .ok (.iushr, 1) := by decide +kernel
theorem dX6_append_28 : decode cX6_append 28 = .ok (.i2b, 1) := by decide +kernel
theorem dX6_append_29 : decode cX6_append 29 = .ok (.bastore, 1) := by decide +kernel
theorem dX6_append_30 : decode cX6_append 30 = .ok (.aload_n 0, 1) := by decide +kernel
theorem dX6_append_31 : decode cX6_append 31 = .ok (.dup, 1) := by decide +kernel
theorem dX6_append_32 : decode cX6_append 32 = .ok (.getfield 35, 3) := by decide +kernel
theorem dX6_append_35 : decode cX6_append 35 = .ok (.iconst 1, 1) := by decide +kernel
theorem dX6_append_36 : decode cX6_append 36 = .ok (.iadd, 1) := by decide +kernel
theorem dX6_append_37 : decode cX6_append 37 = .ok (.putfield 35, 3) := by decide +kernel
theorem dX6_append_40 : decode cX6_append 40 = .ok (.iinc 2 (-8), 3) := by decide +kernel
theorem dX6_append_43 : decode cX6_append 43 = .ok (.goto (-40), 3) := by decide +kernel
theorem dX6_append_46 : decode cX6_append 46 = .ok (.return_, 1) := by decide +kernel
theorem dX6_begin_0 : decode cX6_begin 0 = .ok (.aload_n 0, 1) := by decide +kernel
theorem dX6_begin_1 : decode cX6_begin 1 = .ok (.iload_n 1, 1) := by decide +kernel
theorem dX6_begin_2 : decode cX6_begin 2 = .ok (.sipush 700, 3) := by decide +kernel
theorem dX6_begin_5 : decode cX6_begin 5 = .ok (.invokestatic 39, 3) := by decide +kernel
theorem dX6_begin_8 : decode cX6_begin 8 = .ok (.putfield 44, 3) := by decide +kernel
theorem dX6_begin_11 : decode cX6_begin 11 = .ok (.aload_n 0, 1) := by decide +kernel
theorem dX6_begin_12 : decode cX6_begin 12 = .ok (.iconst 0, 1) := by decide +kernel
theorem dX6_begin_13 : decode cX6_begin 13 = .ok (.putfield 46, 3) := by decide +kernel
theorem dX6_begin_16 : decode cX6_begin 16 = .ok (.aload_n 0, 1) := by decide +kernel
theorem dX6_begin_17 : decode cX6_begin 17 = .ok (.invokevirtual 49, 3) := by decide +kernel
theorem dX6_begin_20 : decode cX6_begin 20 = .ok (.return_, 1) := by decide +kernel
theorem dX6_next_0 : decode cX6_next 0 = .ok (.aload_n 0, 1) := by decide +kernel
theorem dX6_next_1 : decode cX6_next 1 = .ok (.getfield 46, 3) := by decide +kernel
theorem dX6_next_4 : decode cX6_next 4 = .ok (.aload_n 0, 1) := by decide +kernel
theorem dX6_next_5 : decode cX6_next 5 = .ok (.getfield 44, 3) := by decide +kernel
theorem dX6_next_8 : decode cX6_next 8 = .ok (.if_icmp .ge 44, 3) := by decide +kernel
theorem dX6_next_11 : decode cX6_next 11 = .ok (.aload_n 0, 1) := by decide +kernel
theorem dX6_next_12 : decode cX6_next 12 = .ok (.getfield 9, 3) := by decide +kernel
theorem dX6_next_15 : decode cX6_next 15 = .ok (.aload_n 0, 1) := by decide +kernel
theorem dX6_next_16 : decode cX6_next 16 = .ok (.getfield 46, 3) := by decide +kernel
theorem dX6_next_19 : decode cX6_next 19 = .ok (.baload, 1) := by decide +kernel
theorem dX6_next_20 : decode cX6_next 20 = .ok (.bipush 32, 2) := by decide +kernel
theorem dX6_next_22 : decode cX6_next 22 = .ok (.if_icmp .eq 17, 3) := by decide +kernel
theorem dX6_next_25 : decode cX6_next 25 = .ok (.aload_n 0, 1) := by decide +kernel
theorem dX6_next_26 : decode cX6_next 26 = .ok (.getfield 9, 3) := by decide +kernel
theorem dX6_next_29 : decode cX6_next 29 = .ok (.aload_n 0, 1) := by decide +kernel
theorem dX6_next_30 : decode cX6_next 30 = .ok (.getfield 46, 3) := by decide +kernel
theorem dX6_next_33 : decode cX6_next 33 = .ok (.baload, 1) := by decide +kernel
theorem dX6_next_34 : decode cX6_next 34 = .ok (.bipush 10, 2) := by decide +kernel
theorem dX6_next_36 : decode cX6_next 36 = .ok (.if_icmp .ne 16, 3) := by decide +kernel
theorem dX6_next_39 : decode cX6_next 39 = .ok (.aload_n 0, 1) := by decide +kernel
theorem dX6_next_40 : decode cX6_next 40 = .ok (.dup, 1) := by decide +kernel
theorem dX6_next_41 : decode cX6_next 41 = .ok (.getfield 46, 3) := by decide +kernel
theorem dX6_next_44 : decode cX6_next 44 = .ok (.iconst 1, 1) := by decide +kernel
theorem dX6_next_45 : decode cX6_next 45 = .ok (.iadd, 1) := by decide +kernel
theorem dX6_next_46 : decode cX6_next 46 = .ok (.putfield 46, 3) := by decide +kernel
theorem dX6_next_49 : decode cX6_next 49 = .ok (.goto (-49), 3) := by decide +kernel
theorem dX6_next_52 : decode cX6_next 52 = .ok (.aload_n 0, 1) := by decide +kernel
theorem dX6_next_53 : decode cX6_next 53 = .ok (.aload_n 0, 1) := by decide +kernel
theorem dX6_next_54 : decode cX6_next 54 = .ok (.getfield 46, 3) := by decide +kernel
theorem dX6_next_57 : decode cX6_next 57 = .ok (.putfield 52, 3) := by decide +kernel
theorem dX6_next_60 : decode cX6_next 60 = .ok (.aload_n 0, 1) := by decide +kernel
theorem dX6_next_61 : decode cX6_next 61 = .ok (.iconst 0, 1) := by decide +kernel
theorem dX6_next_62 : decode cX6_next 62 = .ok (.putfield 55, 3) := by decide +kernel
theorem dX6_next_65 : decode cX6_next 65 = .ok (.aload_n 0, 1) := by decide +kernel
theorem dX6_next_66 : decode cX6_next 66 = .ok (.getfield 46, 3) := by decide +kernel
theorem dX6_next_69 : decode cX6_next 69 = .ok (.aload_n 0, 1) := by decide +kernel
theorem dX6_next_70 : decode cX6_next 70 = .ok (.getfield 44, 3) := by decide +kernel
theorem dX6_next_73 : decode cX6_next 73 = .ok (.if_icmp .lt 12, 3) := by decide +kernel
theorem dX6_next_76 : decode cX6_next 76 = .ok (.aload_n 0, 1) := by decide +kernel
theorem dX6_next_77 : decode cX6_next 77 = .ok (.bipush 36, 2) := by decide +kernel
theorem dX6_next_79 : decode cX6_next 79 = .ok (.putfield 58, 3) := by decide +kernel
theorem dX6_next_82 : decode cX6_next 82 = .ok (.goto 51, 3) := by decide +kernel
theorem dX6_next_85 : decode cX6_next 85 = .ok (.aload_n 0, 1) := by decide +kernel
theorem dX6_next_86 : decode cX6_next 86 = .ok (.getfield 9, 3) := by decide +kernel
theorem dX6_next_89 : decode cX6_next 89 = .ok (.aload_n 0, 1) := by decide +kernel
theorem dX6_next_90 : decode cX6_next 90 = .ok (.getfield 46, 3) := by decide +kernel
theorem dX6_next_93 : decode cX6_next 93 = .ok (.baload, 1) := by decide +kernel
theorem dX6_next_94 : decode cX6_next 94 = .ok (.invokestatic 61, 3) := by decide +kernel
theorem dX6_next_97 : decode cX6_next 97 = .ok (.ifCond .eq 10, 3) := by decide +kernel
theorem dX6_next_100 : decode cX6_next 100 = .ok (.aload_n 0, 1) := by decide +kernel
theorem dX6_next_101 : decode cX6_next 101 = .ok (.invokevirtual 65, 3) := by decide +kernel
theorem dX6_next_104 : decode cX6_next 104 = .ok (.goto 29, 3) := by decide +kernel
theorem dX6_next_107 : decode cX6_next 107 = .ok (.aload_n 0, 1) := by decide +kernel
theorem dX6_next_108 : decode cX6_next 108 = .ok (.getfield 9, 3) := by decide +kernel
theorem dX6_next_111 : decode cX6_next 111 = .ok (.aload_n 0, 1) := by decide +kernel
theorem dX6_next_112 : decode cX6_next 112 = .ok (.getfield 46, 3) := by decide +kernel
theorem dX6_next_115 : decode cX6_next 115 = .ok (.baload, 1) := by decide +kernel
theorem dX6_next_116 : decode cX6_next 116 = .ok (.invokestatic 68, 3) := by decide +kernel
theorem dX6_next_119 : decode cX6_next 119 = .ok (.ifCond .eq 10, 3) := by decide +kernel
theorem dX6_next_122 : decode cX6_next 122 = .ok (.aload_n 0, 1) := by decide +kernel
theorem dX6_next_123 : decode cX6_next 123 = .ok (.invokevirtual 71, 3) := by decide +kernel
theorem dX6_next_126 : decode cX6_next 126 = .ok (.goto 7, 3) := by decide +kernel
theorem dX6_next_129 : decode cX6_next 129 = .ok (.aload_n 0, 1) := by decide +kernel
theorem dX6_next_130 : decode cX6_next 130 = .ok (.invokevirtual 74, 3) := by decide +kernel
theorem dX6_next_133 : decode cX6_next 133 = .ok (.return_, 1) := by decide +kernel
theorem dX6_isLetter_0 : decode cX6_isLetter 0 = .ok (.iload_n 0, 1) := by decide +kernel
theorem dX6_isLetter_1 : decode cX6_isLetter 1 = .ok (.bipush 97, 2) := by decide +kernel
theorem dX6_isLetter_3 : decode cX6_isLetter 3 = .ok (.if_icmp .lt 13, 3) := by decide +kernel
theorem dX6_isLetter_6 : decode cX6_isLetter 6 = .ok (.iload_n 0, 1) := by decide +kernel
theorem dX6_isLetter_7 : decode cX6_isLetter 7 = .ok (.bipush 122, 2) := by decide +kernel
theorem dX6_isLetter_9 : decode cX6_isLetter 9 = .ok (.if_icmp .gt 7, 3) := by decide +kernel
theorem dX6_isLetter_12 : decode cX6_isLetter 12 = .ok (.iconst 1, 1) := by decide +kernel
theorem dX6_isLetter_13 : decode cX6_isLetter 13 = .ok (.goto 4, 3) := by decide +kernel
theorem dX6_isLetter_16 : decode cX6_isLetter 16 = .ok (.iconst 0, 1) := by decide +kernel
theorem dX6_isLetter_17 : decode cX6_isLetter 17 = .ok (.ireturn, 1) := by decide +kernel
theorem dX6_isDigit_0 : decode cX6_isDigit 0 = .ok (.iload_n 0, 1) := by decide +kernel
theorem dX6_isDigit_1 : decode cX6_isDigit 1 = .ok (.bipush 48, 2) := by decide +kernel
theorem dX6_isDigit_3 : decode cX6_isDigit 3 = .ok (.if_icmp .lt 13, 3) := by decide +kernel
theorem dX6_isDigit_6 : decode cX6_isDigit 6 = .ok (.iload_n 0, 1) := by decide +kernel
theorem dX6_isDigit_7 : decode cX6_isDigit 7 = .ok (.bipush 57, 2) := by decide +kernel
theorem dX6_isDigit_9 : decode cX6_isDigit 9 = .ok (.if_icmp .gt 7, 3) := by decide +kernel
theorem dX6_isDigit_12 : decode cX6_isDigit 12 = .ok (.iconst 1, 1) := by decide +kernel
theorem dX6_isDigit_13 : decode cX6_isDigit 13 = .ok (.goto 4, 3) := by decide +kernel
theorem dX6_isDigit_16 : decode cX6_isDigit 16 = .ok (.iconst 0, 1) := by decide +kernel
theorem dX6_isDigit_17 : decode cX6_isDigit 17 = .ok (.ireturn, 1) := by decide +kernel
theorem dX6_letterBits_0 : decode cX6_letterBits 0 = .ok (.iload_n 1, 1) := by decide +kernel
theorem dX6_letterBits_1 : decode cX6_letterBits 1 = .ok (.bipush 6, 2) := by decide +kernel
theorem dX6_letterBits_3 : decode cX6_letterBits 3 = .ok (.if_icmp .ge 19, 3) := by decide +kernel
theorem dX6_letterBits_6 : decode cX6_letterBits 6 = .ok (.iload_n 0, 1) := by decide +kernel
theorem dX6_letterBits_7 : decode cX6_letterBits 7 = .ok (.bipush 97, 2) := by decide +kernel
theorem dX6_letterBits_9 : decode cX6_letterBits 9 = .ok (.isub, 1) := by decide +kernel
theorem dX6_letterBits_10 : decode cX6_letterBits 10 = .ok (.iconst 1, 1) := by decide +kernel
theorem dX6_letterBits_11 : decode cX6_letterBits 11 = .ok (.iadd, 1) := by decide +kernel
theorem dX6_letterBits_12 : decode cX6_letterBits 12 = .ok (.bipush 25, 2) := by decide +kernel
theorem dX6_letterBits_14 : decode cX6_letterBits 14 = .ok (.iconst 5, 1) := by decide +kernel
theorem dX6_letterBits_15 : decode cX6_letterBits 15 = .ok (.iload_n 1, 1) := by decide +kernel
theorem dX6_letterBits_16 : decode cX6_letterBits 16 = .ok (.imul, 1) := by decide +kernel
theorem dX6_letterBits_17 : decode cX6_letterBits 17 = .ok (.isub, 1) := by decide +kernel
theorem dX6_letterBits_18 : decode cX6_letterBits 18 = .ok (.ishl, 1) := by decide +kernel
theorem dX6_letterBits_19 : decode cX6_letterBits 19 = .ok (.goto 4, 3) := by decide +kernel
theorem dX6_letterBits_22 : decode cX6_letterBits 22 = .ok (.iconst 0, 1) := by decide +kernel
theorem dX6_letterBits_23 : decode cX6_letterBits 23 = .ok (.ireturn, 1) := by decide +kernel
theorem dX6_readWord_0 : decode cX6_readWord 0 = .ok (.iconst 0, 1) := by decide +kernel
theorem dX6_readWord_1 : decode cX6_readWord 1 = .ok (.istore_n 1, 1) := by decide +kernel
theorem dX6_readWord_2 : decode cX6_readWord 2 = .ok (.aload_n 0, 1) := by decide +kernel
theorem dX6_readWord_3 : decode cX6_readWord 3 = .ok (.getfield 46, 3) := by decide +kernel
theorem dX6_readWord_6 : decode cX6_readWord 6 = .ok (.aload_n 0, 1) := by decide +kernel
theorem dX6_readWord_7 : decode cX6_readWord 7 = .ok (.getfield 44, 3) := by decide +kernel
theorem dX6_readWord_10 : decode cX6_readWord 10 = .ok (.if_icmp .ge 56, 3) := by decide +kernel
theorem dX6_readWord_13 : decode cX6_readWord 13 = .ok (.aload_n 0, 1) := by decide +kernel
theorem dX6_readWord_14 : decode cX6_readWord 14 = .ok (.getfield 9, 3) := by decide +kernel
theorem dX6_readWord_17 : decode cX6_readWord 17 = .ok (.aload_n 0, 1) := by decide +kernel
theorem dX6_readWord_18 : decode cX6_readWord 18 = .ok (.getfield 46, 3) := by decide +kernel
theorem dX6_readWord_21 : decode cX6_readWord 21 = .ok (.baload, 1) := by decide +kernel
theorem dX6_readWord_22 : decode cX6_readWord 22 = .ok (.invokestatic 61, 3) := by decide +kernel
theorem dX6_readWord_25 : decode cX6_readWord 25 = .ok (.ifCond .eq 41, 3) := by decide +kernel
theorem dX6_readWord_28 : decode cX6_readWord 28 = .ok (.aload_n 0, 1) := by decide +kernel
theorem dX6_readWord_29 : decode cX6_readWord 29 = .ok (.dup, 1) := by decide +kernel
theorem dX6_readWord_30 : decode cX6_readWord 30 = .ok (.getfield 55, 3) := by decide +kernel
theorem dX6_readWord_33 : decode cX6_readWord 33 = .ok (.aload_n 0, 1) := by decide +kernel
theorem dX6_readWord_34 : decode cX6_readWord 34 = .ok (.getfield 9, 3) := by decide +kernel
theorem dX6_readWord_37 : decode cX6_readWord 37 = .ok (.aload_n 0, 1) := by decide +kernel
theorem dX6_readWord_38 : decode cX6_readWord 38 = .ok (.getfield 46, 3) := by decide +kernel
theorem dX6_readWord_41 : decode cX6_readWord 41 = .ok (.baload, 1) := by decide +kernel
theorem dX6_readWord_42 : decode cX6_readWord 42 = .ok (.iload_n 1, 1) := by decide +kernel
theorem dX6_readWord_43 : decode cX6_readWord 43 = .ok (.invokestatic 31, 3) := by decide +kernel
theorem dX6_readWord_46 : decode cX6_readWord 46 = .ok (.ior, 1) := by decide +kernel
theorem dX6_readWord_47 : decode cX6_readWord 47 = .ok (.putfield 55, 3) := by decide +kernel
theorem dX6_readWord_50 : decode cX6_readWord 50 = .ok (.iinc 1 1, 3) := by decide +kernel
theorem dX6_readWord_53 : decode cX6_readWord 53 = .ok (.aload_n 0, 1) := by decide +kernel
theorem dX6_readWord_54 : decode cX6_readWord 54 = .ok (.dup, 1) := by decide +kernel
theorem dX6_readWord_55 : decode cX6_readWord 55 = .ok (.getfield 46, 3) := by decide +kernel
theorem dX6_readWord_58 : decode cX6_readWord 58 = .ok (.iconst 1, 1) := by decide +kernel
theorem dX6_readWord_59 : decode cX6_readWord 59 = .ok (.iadd, 1) := by decide +kernel
theorem dX6_readWord_60 : decode cX6_readWord 60 = .ok (.putfield 46, 3) := by decide +kernel
theorem dX6_readWord_63 : decode cX6_readWord 63 = .ok (.goto (-61), 3) := by decide +kernel
theorem dX6_readWord_66 : decode cX6_readWord 66 = .ok (.aload_n 0, 1) := by decide +kernel
theorem dX6_readWord_67 : decode cX6_readWord 67 = .ok (.bipush 35, 2) := by decide +kernel
theorem dX6_readWord_69 : decode cX6_readWord 69 = .ok (.putfield 58, 3) := by decide +kernel
theorem dX6_readWord_72 : decode cX6_readWord 72 = .ok (.iload_n 1, 1) := by decide +kernel
theorem dX6_readWord_73 : decode cX6_readWord 73 = .ok (.bipush 6, 2) := by decide +kernel
theorem dX6_readWord_75 : decode cX6_readWord 75 = .ok (.if_icmp .le 10, 3) := by decide +kernel
theorem dX6_readWord_78 : decode cX6_readWord 78 = .ok (.aload_n 0, 1) := by decide +kernel
theorem dX6_readWord_79 : decode cX6_readWord 79 = .ok (.bipush 37, 2) := by decide +kernel
theorem dX6_readWord_81 : decode cX6_readWord 81 = .ok (.putfield 58, 3) := by decide +kernel
theorem dX6_readWord_84 : decode cX6_readWord 84 = .ok (.return_, 1) := by decide +kernel
theorem dX6_readWord_85 : decode cX6_readWord 85 = .ok (.aload_n 0, 1) := by decide +kernel
theorem dX6_readWord_86 : decode cX6_readWord 86 = .ok (.getfield 55, 3) := by decide +kernel
theorem dX6_readWord_89 : decode cX6_readWord 89 = .ok (.aload_n 0, 1) := by decide +kernel
theorem dX6_readWord_90 : decode cX6_readWord 90 = .ok (.getfield 15, 3) := by decide +kernel
theorem dX6_readWord_93 : decode cX6_readWord 93 = .ok (.bipush 21, 2) := by decide +kernel
theorem dX6_readWord_95 : decode cX6_readWord 95 = .ok (.invokestatic 77, 3) := by decide +kernel
theorem dX6_readWord_98 : decode cX6_readWord 98 = .ok (.istore_n 2, 1) := by decide +kernel
theorem dX6_readWord_99 : decode cX6_readWord 99 = .ok (.iload_n 2, 1) := by decide +kernel
theorem dX6_readWord_100 : decode cX6_readWord 100 = .ok (.iconst (-1), 1) := by decide +kernel
theorem dX6_readWord_101 : decode cX6_readWord 101 = .ok (.if_icmp .eq 8, 3) := by decide +kernel
theorem dX6_readWord_104 : decode cX6_readWord 104 = .ok (.aload_n 0, 1) := by decide +kernel
theorem dX6_readWord_105 : decode cX6_readWord 105 = .ok (.iload_n 2, 1) := by decide +kernel
theorem dX6_readWord_106 : decode cX6_readWord 106 = .ok (.putfield 58, 3) := by decide +kernel
theorem dX6_readWord_109 : decode cX6_readWord 109 = .ok (.return_, 1) := by decide +kernel
theorem dX6_readNumber_0 : decode cX6_readNumber 0 = .ok (.aload_n 0, 1) := by decide +kernel
theorem dX6_readNumber_1 : decode cX6_readNumber 1 = .ok (.getfield 46, 3) := by decide +kernel
theorem dX6_readNumber_4 : decode cX6_readNumber 4 = .ok (.aload_n 0, 1) := by decide +kernel
theorem dX6_readNumber_5 : decode cX6_readNumber 5 = .ok (.getfield 44, 3) := by decide +kernel
theorem dX6_readNumber_8 : decode cX6_readNumber 8 = .ok (.if_icmp .ge 60, 3) := by decide +kernel
theorem dX6_readNumber_11 : decode cX6_readNumber 11 = .ok (.aload_n 0, 1) := by decide +kernel
theorem dX6_readNumber_12 : decode cX6_readNumber 12 = .ok (.getfield 9, 3) := by decide +kernel
theorem dX6_readNumber_15 : decode cX6_readNumber 15 = .ok (.aload_n 0, 1) := by decide +kernel
theorem dX6_readNumber_16 : decode cX6_readNumber 16 = .ok (.getfield 46, 3) := by decide +kernel
theorem dX6_readNumber_19 : decode cX6_readNumber 19 = .ok (.baload, 1) := by decide +kernel
theorem dX6_readNumber_20 : decode cX6_readNumber 20 = .ok (.invokestatic 68, 3) := by decide +kernel
theorem dX6_readNumber_23 : decode cX6_readNumber 23 = .ok (.ifCond .eq 45, 3) := by decide +kernel
theorem dX6_readNumber_26 : decode cX6_readNumber 26 = .ok (.aload_n 0, 1) := by decide +kernel
theorem dX6_readNumber_27 : decode cX6_readNumber 27 = .ok (.ldc 81, 2) := by decide +kernel
theorem dX6_readNumber_29 : decode cX6_readNumber 29 = .ok (.aload_n 0, 1) := by decide +kernel
theorem dX6_readNumber_30 : decode cX6_readNumber 30 = .ok (.getfield 55, 3) := by decide +kernel
theorem dX6_readNumber_33 : decode cX6_readNumber 33 = .ok (.bipush 10, 2) := by decide +kernel
theorem dX6_readNumber_35 : decode cX6_readNumber 35 = .ok (.imul, 1) := by decide +kernel
theorem dX6_readNumber_36 : decode cX6_readNumber 36 = .ok (.aload_n 0, 1) := by decide +kernel
theorem dX6_readNumber_37 : decode cX6_readNumber 37 = .ok (.getfield 9, 3) := by decide +kernel
theorem dX6_readNumber_40 : decode cX6_readNumber 40 = .ok (.aload_n 0, 1) := by decide +kernel
theorem dX6_readNumber_41 : decode cX6_readNumber 41 = .ok (.getfield 46, 3) := by decide +kernel
theorem dX6_readNumber_44 : decode cX6_readNumber 44 = .ok (.baload, 1) := by decide +kernel
theorem dX6_readNumber_45 : decode cX6_readNumber 45 = .ok (.iadd, 1) := by decide +kernel
theorem dX6_readNumber_46 : decode cX6_readNumber 46 = .ok (.bipush 48, 2) := by decide +kernel
theorem dX6_readNumber_48 : decode cX6_readNumber 48 = .ok (.isub, 1) := by decide +kernel
theorem dX6_readNumber_49 : decode cX6_readNumber 49 = .ok (.invokestatic 39, 3) := by decide +kernel
theorem dX6_readNumber_52 : decode cX6_readNumber 52 = .ok (.putfield 55, 3) := by decide +kernel
theorem dX6_readNumber_55 : decode cX6_readNumber 55 = .ok (.aload_n 0, 1) := by decide +kernel
theorem dX6_readNumber_56 : decode cX6_readNumber 56 = .ok (.dup, 1) := by decide +kernel
theorem dX6_readNumber_57 : decode cX6_readNumber 57 = .ok (.getfield 46, 3) := by decide +kernel
theorem dX6_readNumber_60 : decode cX6_readNumber 60 = .ok (.iconst 1, 1) := by decide +kernel
theorem dX6_readNumber_61 : decode cX6_readNumber 61 = .ok (.iadd, 1) := by decide +kernel
theorem dX6_readNumber_62 : decode cX6_readNumber 62 = .ok (.putfield 46, 3) := by decide +kernel
theorem dX6_readNumber_65 : decode cX6_readNumber 65 = .ok (.goto (-65), 3) := by decide +kernel
theorem dX6_readNumber_68 : decode cX6_readNumber 68 = .ok (.aload_n 0, 1) := by decide +kernel
theorem dX6_readNumber_69 : decode cX6_readNumber 69 = .ok (.bipush 34, 2) := by decide +kernel
theorem dX6_readNumber_71 : decode cX6_readNumber 71 = .ok (.putfield 58, 3) := by decide +kernel
theorem dX6_readNumber_74 : decode cX6_readNumber 74 = .ok (.return_, 1) := by decide +kernel
theorem dX6_readSign_0 : decode cX6_readSign 0 = .ok (.aload_n 0, 1) := by decide +kernel
theorem dX6_readSign_1 : decode cX6_readSign 1 = .ok (.getfield 9, 3) := by decide +kernel
theorem dX6_readSign_4 : decode cX6_readSign 4 = .ok (.aload_n 0, 1) := by decide +kernel
theorem dX6_readSign_5 : decode cX6_readSign 5 = .ok (.getfield 46, 3) := by decide +kernel
theorem dX6_readSign_8 : decode cX6_readSign 8 = .ok (.baload, 1) := by decide +kernel
theorem dX6_readSign_9 : decode cX6_readSign 9 = .ok (.istore_n 1, 1) := by decide +kernel
theorem dX6_readSign_10 : decode cX6_readSign 10 = .ok (.aload_n 0, 1) := by decide +kernel
theorem dX6_readSign_11 : decode cX6_readSign 11 = .ok (.dup, 1) := by decide +kernel
theorem dX6_readSign_12 : decode cX6_readSign 12 = .ok (.getfield 46, 3) := by decide +kernel
theorem dX6_readSign_15 : decode cX6_readSign 15 = .ok (.iconst 1, 1) := by decide +kernel
theorem dX6_readSign_16 : decode cX6_readSign 16 = .ok (.iadd, 1) := by decide +kernel
theorem dX6_readSign_17 : decode cX6_readSign 17 = .ok (.putfield 46, 3) := by decide +kernel
theorem dX6_readSign_20 : decode cX6_readSign 20 = .ok (.iload_n 1, 1) := by decide +kernel
theorem dX6_readSign_21 : decode cX6_readSign 21 = .ok (.tableswitch 239 40 62 #[212, 221, 194, 176, 239, 185, 239, 203, 239, 239, 239, 239, 239, 239, 239, 239, 239, 239, 239, 230, 107, 167, 144], 107) := by decide +kernel
theorem dX6_readSign_128 : decode cX6_readSign 128 = .ok (.aload_n 0, 1) := by decide +kernel
theorem dX6_readSign_129 : decode cX6_readSign 129 = .ok (.aload_n 0, 1) := by decide +kernel
theorem dX6_readSign_130 : decode cX6_readSign 130 = .ok (.bipush 61, 2) := by decide +kernel
theorem dX6_readSign_132 : decode cX6_readSign 132 = .ok (.invokevirtual 82, 3) := by decide +kernel
theorem dX6_readSign_135 : decode cX6_readSign 135 = .ok (.ifCond .eq 8, 3) := by decide +kernel
theorem dX6_readSign_138 : decode cX6_readSign 138 = .ok (.bipush 22, 2) := by decide +kernel
theorem dX6_readSign_140 : decode cX6_readSign 140 = .ok (.goto 19, 3) := by decide +kernel
theorem dX6_readSign_143 : decode cX6_readSign 143 = .ok (.aload_n 0, 1) := by decide +kernel
theorem dX6_readSign_144 : decode cX6_readSign 144 = .ok (.bipush 62, 2) := by decide +kernel
theorem dX6_readSign_146 : decode cX6_readSign 146 = .ok (.invokevirtual 82, 3) := by decide +kernel
theorem dX6_readSign_149 : decode cX6_readSign 149 = .ok (.ifCond .eq 8, 3) := by decide +kernel
theorem dX6_readSign_152 : decode cX6_readSign 152 = .ok (.bipush 24, 2) := by decide +kernel
theorem dX6_readSign_154 : decode cX6_readSign 154 = .ok (.goto 5, 3) := by decide +kernel
theorem dX6_readSign_157 : decode cX6_readSign 157 = .ok (.bipush 21, 2) := by decide +kernel
theorem dX6_readSign_159 : decode cX6_readSign 159 = .ok (.putfield 58, 3) := by decide +kernel
theorem dX6_readSign_162 : decode cX6_readSign 162 = .ok (.goto 104, 3) := by decide +kernel
theorem dX6_readSign_165 : decode cX6_readSign 165 = .ok (.aload_n 0, 1) := by decide +kernel
theorem dX6_readSign_166 : decode cX6_readSign 166 = .ok (.aload_n 0, 1) := by decide +kernel
theorem dX6_readSign_167 : decode cX6_readSign 167 = .ok (.bipush 61, 2) := by decide +kernel
theorem dX6_readSign_169 : decode cX6_readSign 169 = .ok (.invokevirtual 82, 3) := by decide +kernel
theorem dX6_readSign_172 : decode cX6_readSign 172 = .ok (.ifCond .eq 8, 3) := by decide +kernel
theorem dX6_readSign_175 : decode cX6_readSign 175 = .ok (.bipush 25, 2) := by decide +kernel
theorem dX6_readSign_177 : decode cX6_readSign 177 = .ok (.goto 5, 3) := by decide +kernel
theorem dX6_readSign_180 : decode cX6_readSign 180 = .ok (.bipush 26, 2) := by decide +kernel
theorem dX6_readSign_182 : decode cX6_readSign 182 = .ok (.putfield 58, 3) := by decide +kernel
theorem dX6_readSign_185 : decode cX6_readSign 185 = .ok (.goto 81, 3) := by decide +kernel
theorem dX6_readSign_188 : decode cX6_readSign 188 = .ok (.aload_n 0, 1) := by decide +kernel
theorem dX6_readSign_189 : decode cX6_readSign 189 = .ok (.bipush 23, 2) := by decide +kernel
theorem dX6_readSign_191 : decode cX6_readSign 191 = .ok (.putfield 58, 3) := by decide +kernel
theorem dX6_readSign_194 : decode cX6_readSign 194 = .ok (.goto 72, 3) := by decide +kernel
theorem dX6_readSign_197 : decode cX6_readSign 197 = .ok (.aload_n 0, 1) := by decide +kernel
theorem dX6_readSign_198 : decode cX6_readSign 198 = .ok (.bipush 27, 2) := by decide +kernel
theorem dX6_readSign_200 : decode cX6_readSign 200 = .ok (.putfield 58, 3) := by decide +kernel
theorem dX6_readSign_203 : decode cX6_readSign 203 = .ok (.goto 63, 3) := by decide +kernel
theorem dX6_readSign_206 : decode cX6_readSign 206 = .ok (.aload_n 0, 1) := by decide +kernel
theorem dX6_readSign_207 : decode cX6_readSign 207 = .ok (.bipush 28, 2) := by decide +kernel
theorem dX6_readSign_209 : decode cX6_readSign 209 = .ok (.putfield 58, 3) := by decide +kernel
theorem dX6_readSign_212 : decode cX6_readSign 212 = .ok (.goto 54, 3) := by decide +kernel
theorem dX6_readSign_215 : decode cX6_readSign 215 = .ok (.aload_n 0, 1) := by decide +kernel
theorem dX6_readSign_216 : decode cX6_readSign 216 = .ok (.bipush 29, 2) := by decide +kernel
theorem dX6_readSign_218 : decode cX6_readSign 218 = .ok (.putfield 58, 3) := by decide +kernel
theorem dX6_readSign_221 : decode cX6_readSign 221 = .ok (.goto 45, 3) := by decide +kernel
theorem dX6_readSign_224 : decode cX6_readSign 224 = .ok (.aload_n 0, 1) := by decide +kernel
theorem dX6_readSign_225 : decode cX6_readSign 225 = .ok (.bipush 30, 2) := by decide +kernel
theorem dX6_readSign_227 : decode cX6_readSign 227 = .ok (.putfield 58, 3) := by decide +kernel
theorem dX6_readSign_230 : decode cX6_readSign 230 = .ok (.goto 36, 3) := by decide +kernel
theorem dX6_readSign_233 : decode cX6_readSign 233 = .ok (.aload_n 0, 1) := by decide +kernel
theorem dX6_readSign_234 : decode cX6_readSign 234 = .ok (.bipush 31, 2) := by decide +kernel
theorem dX6_readSign_236 : decode cX6_readSign 236 = .ok (.putfield 58, 3) := by decide +kernel
theorem dX6_readSign_239 : decode cX6_readSign 239 = .ok (.goto 27, 3) := by decide +kernel
theorem dX6_readSign_242 : decode cX6_readSign 242 = .ok (.aload_n 0, 1) := by decide +kernel
theorem dX6_readSign_243 : decode cX6_readSign 243 = .ok (.bipush 32, 2) := by decide +kernel
theorem dX6_readSign_245 : decode cX6_readSign 245 = .ok (.putfield 58, 3) := by decide +kernel
theorem dX6_readSign_248 : decode cX6_readSign 248 = .ok (.goto 18, 3) := by decide +kernel
theorem dX6_readSign_251 : decode cX6_readSign 251 = .ok (.aload_n 0, 1) := by decide +kernel
theorem dX6_readSign_252 : decode cX6_readSign 252 = .ok (.bipush 33, 2) := by decide +kernel
theorem dX6_readSign_254 : decode cX6_readSign 254 = .ok (.putfield 58, 3) := by decide +kernel
theorem dX6_readSign_257 : decode cX6_readSign 257 = .ok (.goto 9, 3) := by decide +kernel
theorem dX6_readSign_260 : decode cX6_readSign 260 = .ok (.aload_n 0, 1) := by decide +kernel
theorem dX6_readSign_261 : decode cX6_readSign 261 = .ok (.bipush 37, 2) := by decide +kernel
theorem dX6_readSign_263 : decode cX6_readSign 263 = .ok (.putfield 58, 3) := by decide +kernel
theorem dX6_readSign_266 : decode cX6_readSign 266 = .ok (.return_, 1) := by decide +kernel
theorem dX6_takes_0 : decode cX6_takes 0 = .ok (.aload_n 0, 1) := by decide +kernel
theorem dX6_takes_1 : decode cX6_takes 1 = .ok (.getfield 46, 3) := by decide +kernel
theorem dX6_takes_4 : decode cX6_takes 4 = .ok (.aload_n 0, 1) := by decide +kernel
theorem dX6_takes_5 : decode cX6_takes 5 = .ok (.getfield 44, 3) := by decide +kernel
theorem dX6_takes_8 : decode cX6_takes 8 = .ok (.if_icmp .ge 28, 3) := by decide +kernel
theorem dX6_takes_11 : decode cX6_takes 11 = .ok (.aload_n 0, 1) := by decide +kernel
theorem dX6_takes_12 : decode cX6_takes 12 = .ok (.getfield 9, 3) := by decide +kernel
theorem dX6_takes_15 : decode cX6_takes 15 = .ok (.aload_n 0, 1) := by decide +kernel
theorem dX6_takes_16 : decode cX6_takes 16 = .ok (.getfield 46, 3) := by decide +kernel
theorem dX6_takes_19 : decode cX6_takes 19 = .ok (.baload, 1) := by decide +kernel
theorem dX6_takes_20 : decode cX6_takes 20 = .ok (.iload_n 1, 1) := by decide +kernel
theorem dX6_takes_21 : decode cX6_takes 21 = .ok (.if_icmp .ne 15, 3) := by decide +kernel
theorem dX6_takes_24 : decode cX6_takes 24 = .ok (.aload_n 0, 1) := by decide +kernel
theorem dX6_takes_25 : decode cX6_takes 25 = .ok (.dup, 1) := by decide +kernel
theorem dX6_takes_26 : decode cX6_takes 26 = .ok (.getfield 46, 3) := by decide +kernel
theorem dX6_takes_29 : decode cX6_takes 29 = .ok (.iconst 1, 1) := by decide +kernel
theorem dX6_takes_30 : decode cX6_takes 30 = .ok (.iadd, 1) := by decide +kernel
theorem dX6_takes_31 : decode cX6_takes 31 = .ok (.putfield 46, 3) := by decide +kernel
theorem dX6_takes_34 : decode cX6_takes 34 = .ok (.iconst 1, 1) := by decide +kernel
theorem dX6_takes_35 : decode cX6_takes 35 = .ok (.ireturn, 1) := by decide +kernel
theorem dX6_takes_36 : decode cX6_takes 36 = .ok (.iconst 0, 1) := by decide +kernel
theorem dX6_takes_37 : decode cX6_takes 37 = .ok (.ireturn, 1) := by decide +kernel
theorem dX7_init_0 : decode cX7_init 0 = .ok (.aload_n 0, 1) := by decide +kernel
theorem dX7_init_1 : decode cX7_init 1 = .ok (.invokespecial 3, 3) := by decide +kernel
theorem dX7_init_4 : decode cX7_init 4 = .ok (.aload_n 0, 1) := by decide +kernel
theorem dX7_init_5 : decode cX7_init 5 = .ok (.iconst 5, 1) := by decide +kernel
theorem dX7_init_6 : decode cX7_init 6 = .ok (.newarray .int, 2) := by decide +kernel
theorem dX7_init_8 : decode cX7_init 8 = .ok (.putfield 9, 3) := by decide +kernel
theorem dX7_init_11 : decode cX7_init 11 = .ok (.aload_n 0, 1) := by decide +kernel
theorem dX7_init_12 : decode cX7_init 12 = .ok (.iconst 5, 1) := by decide +kernel
theorem dX7_init_13 : decode cX7_init 13 = .ok (.newarray .int, 2) := by decide +kernel
theorem dX7_init_15 : decode cX7_init 15 = .ok (.putfield 15, 3) := by decide +kernel
theorem dX7_init_18 : decode cX7_init 18 = .ok (.aload_n 0, 1) := by decide +kernel
theorem dX7_init_19 : decode cX7_init 19 = .ok (.iconst 5, 1) := by decide +kernel
theorem dX7_init_20 : decode cX7_init 20 = .ok (.newarray .int, 2) := by decide +kernel
theorem dX7_init_22 : decode cX7_init 22 = .ok (.putfield 18, 3) := by decide +kernel
theorem dX7_init_25 : decode cX7_init 25 = .ok (.aload_n 0, 1) := by decide +kernel
theorem dX7_init_26 : decode cX7_init 26 = .ok (.iconst 5, 1) := by decide +kernel
theorem dX7_init_27 : decode cX7_init 27 = .ok (.newarray .int, 2) := by decide +kernel
theorem dX7_init_29 : decode cX7_init 29 = .ok (.putfield 21, 3) := by decide +kernel
theorem dX7_init_32 : decode cX7_init 32 = .ok (.aload_n 0, 1) := by decide +kernel
theorem dX7_init_33 : decode cX7_init 33 = .ok (.bipush 6, 2) := by decide +kernel
theorem dX7_init_35 : decode cX7_init 35 = .ok (.newarray .int, 2) := by decide +kernel
theorem dX7_init_37 : decode cX7_init 37 = .ok (.putfield 24, 3) := by decide +kernel
theorem dX7_init_40 : decode cX7_init 40 = .ok (.aload_n 0, 1) := by decide +kernel
theorem dX7_init_41 : decode cX7_init 41 = .ok (.bipush 6, 2) := by decide +kernel
theorem dX7_init_43 : decode cX7_init 43 = .ok (.newarray .int, 2) := by decide +kernel
theorem dX7_init_45 : decode cX7_init 45 = .ok (.putfield 27, 3) := by decide +kernel
theorem dX7_init_48 : decode cX7_init 48 = .ok (.aload_n 0, 1) := by decide +kernel
theorem dX7_init_49 : decode cX7_init 49 = .ok (.bipush 6, 2) := by decide +kernel
theorem dX7_init_51 : decode cX7_init 51 = .ok (.newarray .int, 2) := by decide +kernel
theorem dX7_init_53 : decode cX7_init 53 = .ok (.putfield 30, 3) := by decide +kernel
theorem dX7_init_56 : decode cX7_init 56 = .ok (.aload_n 0, 1) := by decide +kernel
theorem dX7_init_57 : decode cX7_init 57 = .ok (.bipush 6, 2) := by decide +kernel
theorem dX7_init_59 : decode cX7_init 59 = .ok (.newarray .int, 2) := by decide +kernel
theorem dX7_init_61 : decode cX7_init 61 = .ok (.putfield 33, 3) := by decide +kernel
theorem dX7_init_64 : decode cX7_init 64 = .ok (.aload_n 0, 1) := by decide +kernel
theorem dX7_init_65 : decode cX7_init 65 = .ok (.bipush 30, 2) := by decide +kernel
theorem dX7_init_67 : decode cX7_init 67 = .ok (.newarray .int, 2) := by decide +kernel
theorem dX7_init_69 : decode cX7_init 69 = .ok (.putfield 36, 3) := by decide +kernel
theorem dX7_init_72 : decode cX7_init 72 = .ok (.aload_n 0, 1) := by decide +kernel
theorem dX7_init_73 : decode cX7_init 73 = .ok (.iconst 0, 1) := by decide +kernel
theorem dX7_init_74 : decode cX7_init 74 = .ok (.putfield 39, 3) := by decide +kernel
theorem dX7_init_77 : decode cX7_init 77 = .ok (.aload_n 0, 1) := by decide +kernel
theorem dX7_init_78 : decode cX7_init 78 = .ok (.bipush 7, 2) := by decide +kernel
theorem dX7_init_80 : decode cX7_init 80 = .ok (.putfield 43, 3) := by decide +kernel
theorem dX7_init_83 : decode cX7_init 83 = .ok (.aload_n 0, 1) := by decide +kernel
theorem dX7_init_84 : decode cX7_init 84 = .ok (.new 46, 3) := by decide +kernel
theorem dX7_init_87 : decode cX7_init 87 = .ok (.dup, 1) := by decide +kernel
theorem dX7_init_88 : decode cX7_init 88 = .ok (.invokespecial 48, 3) := by decide +kernel
theorem dX7_init_91 : decode cX7_init 91 = .ok (.putfield 49, 3) := by decide +kernel
theorem dX7_init_94 : decode cX7_init 94 = .ok (.return_, 1) := by decide +kernel
theorem dX7_clear_0 : decode cX7_clear 0 = .ok (.aload_n 0, 1) := by decide +kernel
theorem dX7_clear_1 : decode cX7_clear 1 = .ok (.iconst 0, 1) := by decide +kernel
theorem dX7_clear_2 : decode cX7_clear 2 = .ok (.putfield 53, 3) := by decide +kernel
theorem dX7_clear_5 : decode cX7_clear 5 = .ok (.aload_n 0, 1) := by decide +kernel
theorem dX7_clear_6 : decode cX7_clear 6 = .ok (.iconst 0, 1) := by decide +kernel
theorem dX7_clear_7 : decode cX7_clear 7 = .ok (.putfield 56, 3) := by decide +kernel
theorem dX7_clear_10 : decode cX7_clear 10 = .ok (.aload_n 0, 1) := by decide +kernel
theorem dX7_clear_11 : decode cX7_clear 11 = .ok (.iconst 0, 1) := by decide +kernel
theorem dX7_clear_12 : decode cX7_clear 12 = .ok (.putfield 59, 3) := by decide +kernel
theorem dX7_clear_15 : decode cX7_clear 15 = .ok (.aload_n 0, 1) := by decide +kernel
theorem dX7_clear_16 : decode cX7_clear 16 = .ok (.getfield 36, 3) := by decide +kernel
theorem dX7_clear_19 : decode cX7_clear 19 = .ok (.iconst 0, 1) := by decide +kernel
theorem dX7_clear_20 : decode cX7_clear 20 = .ok (.invokestatic 62, 3) := by decide +kernel
theorem dX7_clear_23 : decode cX7_clear 23 = .ok (.aload_n 0, 1) := by decide +kernel
theorem dX7_clear_24 : decode cX7_clear 24 = .ok (.iconst 0, 1) := by decide +kernel
theorem dX7_clear_25 : decode cX7_clear 25 = .ok (.putfield 39, 3) := by decide +kernel
theorem dX7_clear_28 : decode cX7_clear 28 = .ok (.aload_n 0, 1) := by decide +kernel
theorem dX7_clear_29 : decode cX7_clear 29 = .ok (.bipush 7, 2) := by decide +kernel
theorem dX7_clear_31 : decode cX7_clear 31 = .ok (.putfield 43, 3) := by decide +kernel
theorem dX7_clear_34 : decode cX7_clear 34 = .ok (.aload_n 0, 1) := by decide +kernel
theorem dX7_clear_35 : decode cX7_clear 35 = .ok (.iconst 0, 1) := by decide +kernel
theorem dX7_clear_36 : decode cX7_clear 36 = .ok (.putfield 68, 3) := by decide +kernel
theorem dX7_clear_39 : decode cX7_clear 39 = .ok (.aload_n 0, 1) := by decide +kernel
theorem dX7_clear_40 : decode cX7_clear 40 = .ok (.iconst 0, 1) := by decide +kernel
theorem dX7_clear_41 : decode cX7_clear 41 = .ok (.putfield 71, 3) := by decide +kernel
theorem dX7_clear_44 : decode cX7_clear 44 = .ok (.aload_n 0, 1) := by decide +kernel
theorem dX7_clear_45 : decode cX7_clear 45 = .ok (.iconst 0, 1) := by decide +kernel
theorem dX7_clear_46 : decode cX7_clear 46 = .ok (.putfield 74, 3) := by decide +kernel
theorem dX7_clear_49 : decode cX7_clear 49 = .ok (.aload_n 0, 1) := by decide +kernel
theorem dX7_clear_50 : decode cX7_clear 50 = .ok (.iconst 0, 1) := by decide +kernel
theorem dX7_clear_51 : decode cX7_clear 51 = .ok (.putfield 77, 3) := by decide +kernel
theorem dX7_clear_54 : decode cX7_clear 54 = .ok (.aload_n 0, 1) := by decide +kernel
theorem dX7_clear_55 : decode cX7_clear 55 = .ok (.getfield 49, 3) := by decide +kernel
theorem dX7_clear_58 : decode cX7_clear 58 = .ok (.invokevirtual 80, 3) := by decide +kernel
theorem dX7_clear_61 : decode cX7_clear 61 = .ok (.return_, 1) := by decide +kernel
theorem dX7_inPlan_0 : decode cX7_inPlan 0 = .ok (.iconst 0, 1) := by decide +kernel
theorem dX7_inPlan_1 : decode cX7_inPlan 1 = .ok (.istore_n 3, 1) := by decide +kernel
theorem dX7_inPlan_2 : decode cX7_inPlan 2 = .ok (.iconst 0, 1) := by decide +kernel
theorem dX7_inPlan_3 : decode cX7_inPlan 3 = .ok (.istore 4, 2) := by decide +kernel
theorem dX7_inPlan_5 : decode cX7_inPlan 5 = .ok (.iload 4, 2) := by decide +kernel
theorem dX7_inPlan_7 : decode cX7_inPlan 7 = .ok (.aload_n 0, 1) := by decide +kernel
theorem dX7_inPlan_8 : decode cX7_inPlan 8 = .ok (.getfield 56, 3) := by decide +kernel
theorem dX7_inPlan_11 : decode cX7_inPlan 11 = .ok (.if_icmp .ge 21, 3) := by decide +kernel
theorem dX7_inPlan_14 : decode cX7_inPlan 14 = .ok (.iload_n 3, 1) := by decide +kernel
theorem dX7_inPlan_15 : decode cX7_inPlan 15 = .ok (.aload_n 1, 1) := by decide +kernel
theorem dX7_inPlan_16 : decode cX7_inPlan 16 = .ok (.iload 4, 2) := by decide +kernel
theorem dX7_inPlan_18 : decode cX7_inPlan 18 = .ok (.iaload, 1) := by decide +kernel
theorem dX7_inPlan_19 : decode cX7_inPlan 19 = .ok (.aload_n 2, 1) := by decide +kernel
theorem dX7_inPlan_20 : decode cX7_inPlan 20 = .ok (.iload 4, 2) := by decide +kernel
theorem dX7_inPlan_22 : decode cX7_inPlan 22 = .ok (.iaload, 1) := by decide +kernel
theorem dX7_inPlan_23 : decode cX7_inPlan 23 = .ok (.imul, 1) := by decide +kernel
theorem dX7_inPlan_24 : decode cX7_inPlan 24 = .ok (.iadd, 1) := by decide +kernel
theorem dX7_inPlan_25 : decode cX7_inPlan 25 = .ok (.istore_n 3, 1) := by decide +kernel
theorem dX7_inPlan_26 : decode cX7_inPlan 26 = .ok (.iinc 4 1, 3) := by decide +kernel
theorem dX7_inPlan_29 : decode cX7_inPlan 29 = .ok (.goto (-24), 3) := by decide +kernel
theorem dX7_inPlan_32 : decode cX7_inPlan 32 = .ok (.iload_n 3, 1) := by decide +kernel
theorem dX7_inPlan_33 : decode cX7_inPlan 33 = .ok (.ireturn, 1) := by decide +kernel
theorem dX8_init_0 : decode cX8_init 0 = .ok (.aload_n 0, 1) := by decide +kernel
theorem dX8_init_1 : decode cX8_init 1 = .ok (.invokespecial 3, 3) := by decide +kernel
theorem dX8_init_4 : decode cX8_init 4 = .ok (.aload_n 0, 1) := by decide +kernel
theorem dX8_init_5 : decode cX8_init 5 = .ok (.iconst 5, 1) := by decide +kernel
theorem dX8_init_6 : decode cX8_init 6 = .ok (.anewarray 9, 3) := by decide +kernel
theorem dX8_init_9 : decode cX8_init 9 = .ok (.putfield 11, 3) := by decide +kernel
theorem dX8_init_12 : decode cX8_init 12 = .ok (.aload_n 0, 1) := by decide +kernel
theorem dX8_init_13 : decode cX8_init 13 = .ok (.iconst (-1), 1) := by decide +kernel
theorem dX8_init_14 : decode cX8_init 14 = .ok (.putfield 17, 3) := by decide +kernel
theorem dX8_init_17 : decode cX8_init 17 = .ok (.aload_n 0, 1) := by decide +kernel
theorem dX8_init_18 : decode cX8_init 18 = .ok (.iconst (-1), 1) := by decide +kernel
theorem dX8_init_19 : decode cX8_init 19 = .ok (.putfield 21, 3) := by decide +kernel
theorem dX8_init_22 : decode cX8_init 22 = .ok (.aload_n 0, 1) := by decide +kernel
theorem dX8_init_23 : decode cX8_init 23 = .ok (.iconst (-1), 1) := by decide +kernel
theorem dX8_init_24 : decode cX8_init 24 = .ok (.putfield 24, 3) := by decide +kernel
theorem dX8_init_27 : decode cX8_init 27 = .ok (.iconst 0, 1) := by decide +kernel
theorem dX8_init_28 : decode cX8_init 28 = .ok (.istore_n 1, 1) := by decide +kernel
theorem dX8_init_29 : decode cX8_init 29 = .ok (.iload_n 1, 1) := by decide +kernel
theorem dX8_init_30 : decode cX8_init 30 = .ok (.iconst 5, 1) := by decide +kernel
theorem dX8_init_31 : decode cX8_init 31 = .ok (.if_icmp .ge 22, 3) := by decide +kernel
theorem dX8_init_34 : decode cX8_init 34 = .ok (.aload_n 0, 1) := by decide +kernel
theorem dX8_init_35 : decode cX8_init 35 = .ok (.getfield 11, 3) := by decide +kernel
theorem dX8_init_38 : decode cX8_init 38 = .ok (.iload_n 1, 1) := by decide +kernel
theorem dX8_init_39 : decode cX8_init 39 = .ok (.new 9, 3) := by decide +kernel
theorem dX8_init_42 : decode cX8_init 42 = .ok (.dup, 1) := by decide +kernel
theorem dX8_init_43 : decode cX8_init 43 = .ok (.invokespecial 27, 3) := by decide +kernel
theorem dX8_init_46 : decode cX8_init 46 = .ok (.aastore, 1) := by decide +kernel
theorem dX8_init_47 : decode cX8_init 47 = .ok (.iinc 1 1, 3) := by decide +kernel
theorem dX8_init_50 : decode cX8_init 50 = .ok (.goto (-21), 3) := by decide +kernel
theorem dX8_init_53 : decode cX8_init 53 = .ok (.return_, 1) := by decide +kernel
theorem dX8_start_0 : decode cX8_start 0 = .ok (.iconst 0, 1) := by decide +kernel
theorem dX8_start_1 : decode cX8_start 1 = .ok (.istore_n 2, 1) := by decide +kernel
theorem dX8_start_2 : decode cX8_start 2 = .ok (.iload_n 2, 1) := by decide +kernel
theorem dX8_start_3 : decode cX8_start 3 = .ok (.iconst 5, 1) := by decide +kernel
theorem dX8_start_4 : decode cX8_start 4 = .ok (.if_icmp .ge 20, 3) := by decide +kernel
theorem dX8_start_7 : decode cX8_start 7 = .ok (.aload_n 0, 1) := by decide +kernel
theorem dX8_start_8 : decode cX8_start 8 = .ok (.getfield 11, 3) := by decide +kernel
theorem dX8_start_11 : decode cX8_start 11 = .ok (.iload_n 2, 1) := by decide +kernel
theorem dX8_start_12 : decode cX8_start 12 = .ok (.aaload, 1) := by decide +kernel
theorem dX8_start_13 : decode cX8_start 13 = .ok (.aload_n 1, 1) := by decide +kernel
theorem dX8_start_14 : decode cX8_start 14 = .ok (.iload_n 2, 1) := by decide +kernel
theorem dX8_start_15 : decode cX8_start 15 = .ok (.invokevirtual 28, 3) := by decide +kernel
theorem dX8_start_18 : decode cX8_start 18 = .ok (.iinc 2 1, 3) := by decide +kernel
theorem dX8_start_21 : decode cX8_start 21 = .ok (.goto (-19), 3) := by decide +kernel
theorem dX8_start_24 : decode cX8_start 24 = .ok (.aload_n 0, 1) := by decide +kernel
theorem dX8_start_25 : decode cX8_start 25 = .ok (.iconst 0, 1) := by decide +kernel
theorem dX8_start_26 : decode cX8_start 26 = .ok (.putfield 32, 3) := by decide +kernel
theorem dX8_start_29 : decode cX8_start 29 = .ok (.aload_n 0, 1) := by decide +kernel
theorem dX8_start_30 : decode cX8_start 30 = .ok (.iconst 0, 1) := by decide +kernel
theorem dX8_start_31 : decode cX8_start 31 = .ok (.putfield 35, 3) := by decide +kernel
theorem dX8_start_34 : decode cX8_start 34 = .ok (.aload_n 0, 1) := by decide +kernel
theorem dX8_start_35 : decode cX8_start 35 = .ok (.aload_n 1, 1) := by decide +kernel
theorem dX8_start_36 : decode cX8_start 36 = .ok (.getfield 38, 3) := by decide +kernel
theorem dX8_start_39 : decode cX8_start 39 = .ok (.i2l, 1) := by decide +kernel
theorem dX8_start_40 : decode cX8_start 40 = .ok (.putfield 43, 3) := by decide +kernel
theorem dX8_start_43 : decode cX8_start 43 = .ok (.aload_n 0, 1) := by decide +kernel
theorem dX8_start_44 : decode cX8_start 44 = .ok (.invokevirtual 47, 3) := by decide +kernel
theorem dX8_start_47 : decode cX8_start 47 = .ok (.return_, 1) := by decide +kernel
theorem dX8_copyFrom_0 : decode cX8_copyFrom 0 = .ok (.iconst 0, 1) := by decide +kernel
theorem dX8_copyFrom_1 : decode cX8_copyFrom 1 = .ok (.istore_n 2, 1) := by decide +kernel
theorem dX8_copyFrom_2 : decode cX8_copyFrom 2 = .ok (.iload_n 2, 1) := by decide +kernel
theorem dX8_copyFrom_3 : decode cX8_copyFrom 3 = .ok (.iconst 5, 1) := by decide +kernel
theorem dX8_copyFrom_4 : decode cX8_copyFrom 4 = .ok (.if_icmp .ge 24, 3) := by decide +kernel
theorem dX8_copyFrom_7 : decode cX8_copyFrom 7 = .ok (.aload_n 0, 1) := by decide +kernel
theorem dX8_copyFrom_8 : decode cX8_copyFrom 8 = .ok (.getfield 11, 3) := by decide +kernel
theorem dX8_copyFrom_11 : decode cX8_copyFrom 11 = .ok (.iload_n 2, 1) := by decide +kernel
theorem dX8_copyFrom_12 : decode cX8_copyFrom 12 = .ok (.aaload, 1) := by decide +kernel
theorem dX8_copyFrom_13 : decode cX8_copyFrom 13 = .ok (.aload_n 1, 1) := by decide +kernel
theorem dX8_copyFrom_14 : decode cX8_copyFrom 14 = .ok (.getfield 11, 3) := by decide +kernel
theorem dX8_copyFrom_17 : decode cX8_copyFrom 17 = .ok (.iload_n 2, 1) := by decide +kernel
theorem dX8_copyFrom_18 : decode cX8_copyFrom 18 = .ok (.aaload, 1) := by decide +kernel
theorem dX8_copyFrom_19 : decode cX8_copyFrom 19 = .ok (.invokevirtual 50, 3) := by decide +kernel
theorem dX8_copyFrom_22 : decode cX8_copyFrom 22 = .ok (.iinc 2 1, 3) := by decide +kernel
theorem dX8_copyFrom_25 : decode cX8_copyFrom 25 = .ok (.goto (-23), 3) := by decide +kernel
theorem dX8_copyFrom_28 : decode cX8_copyFrom 28 = .ok (.aload_n 0, 1) := by decide +kernel
theorem dX8_copyFrom_29 : decode cX8_copyFrom 29 = .ok (.aload_n 1, 1) := by decide +kernel
theorem dX8_copyFrom_30 : decode cX8_copyFrom 30 = .ok (.getfield 32, 3) := by decide +kernel
theorem dX8_copyFrom_33 : decode cX8_copyFrom 33 = .ok (.putfield 32, 3) := by decide +kernel
theorem dX8_copyFrom_36 : decode cX8_copyFrom 36 = .ok (.aload_n 0, 1) := by decide +kernel
theorem dX8_copyFrom_37 : decode cX8_copyFrom 37 = .ok (.aload_n 1, 1) := by decide +kernel
theorem dX8_copyFrom_38 : decode cX8_copyFrom 38 = .ok (.getfield 35, 3) := by decide +kernel
theorem dX8_copyFrom_41 : decode cX8_copyFrom 41 = .ok (.putfield 35, 3) := by decide +kernel
theorem dX8_copyFrom_44 : decode cX8_copyFrom 44 = .ok (.aload_n 0, 1) := by decide +kernel
theorem dX8_copyFrom_45 : decode cX8_copyFrom 45 = .ok (.aload_n 1, 1) := by decide +kernel
theorem dX8_copyFrom_46 : decode cX8_copyFrom 46 = .ok (.getfield 43, 3) := by decide +kernel
theorem dX8_copyFrom_49 : decode cX8_copyFrom 49 = .ok (.putfield 43, 3) := by decide +kernel
theorem dX8_copyFrom_52 : decode cX8_copyFrom 52 = .ok (.aload_n 0, 1) := by decide +kernel
theorem dX8_copyFrom_53 : decode cX8_copyFrom 53 = .ok (.invokevirtual 47, 3) := by decide +kernel
theorem dX8_copyFrom_56 : decode cX8_copyFrom 56 = .ok (.return_, 1) := by decide +kernel
theorem dX8_setPlain_0 : decode cX8_setPlain 0 = .ok (.aload_n 0, 1) := by decide +kernel
theorem dX8_setPlain_1 : decode cX8_setPlain 1 = .ok (.iconst (-1), 1) := by decide +kernel
theorem dX8_setPlain_2 : decode cX8_setPlain 2 = .ok (.putfield 17, 3) := by decide +kernel
theorem dX8_setPlain_5 : decode cX8_setPlain 5 = .ok (.aload_n 0, 1) := by decide +kernel
theorem dX8_setPlain_6 : decode cX8_setPlain 6 = .ok (.iconst (-1), 1) := by decide +kernel
theorem dX8_setPlain_7 : decode cX8_setPlain 7 = .ok (.putfield 21, 3) := by decide +kernel
theorem dX8_setPlain_10 : decode cX8_setPlain 10 = .ok (.aload_n 0, 1) := by decide +kernel
theorem dX8_setPlain_11 : decode cX8_setPlain 11 = .ok (.iconst (-1), 1) := by decide +kernel
theorem dX8_setPlain_12 : decode cX8_setPlain 12 = .ok (.putfield 24, 3) := by decide +kernel
theorem dX8_setPlain_15 : decode cX8_setPlain 15 = .ok (.aload_n 0, 1) := by decide +kernel
theorem dX8_setPlain_16 : decode cX8_setPlain 16 = .ok (.iconst 0, 1) := by decide +kernel
theorem dX8_setPlain_17 : decode cX8_setPlain 17 = .ok (.putfield 54, 3) := by decide +kernel
theorem dX8_setPlain_20 : decode cX8_setPlain 20 = .ok (.return_, 1) := by decide +kernel
theorem dX8_drawsWet_0 : decode cX8_drawsWet 0 = .ok (.iload_n 1, 1) := by decide +kernel
theorem dX8_drawsWet_1 : decode cX8_drawsWet 1 = .ok (.ifCond .ne 5, 3) := by decide +kernel
theorem dX8_drawsWet_4 : decode cX8_drawsWet 4 = .ok (.iconst 0, 1) := by decide +kernel
theorem dX8_drawsWet_5 : decode cX8_drawsWet 5 = .ok (.ireturn, 1) := by decide +kernel
theorem dX8_drawsWet_6 : decode cX8_drawsWet 6 = .ok (.aload_n 0, 1) := by decide +kernel
theorem dX8_drawsWet_7 : decode cX8_drawsWet 7 = .ok (.aload_n 0, 1) := by decide +kernel
theorem dX8_drawsWet_8 : decode cX8_drawsWet 8 = .ok (.getfield 43, 3) := by decide +kernel
theorem dX8_drawsWet_11 : decode cX8_drawsWet 11 = .ok (.ldc2_w 58, 3) := by decide +kernel
theorem dX8_drawsWet_14 : decode cX8_drawsWet 14 = .ok (.lmul, 1) := by decide +kernel
theorem dX8_drawsWet_15 : decode cX8_drawsWet 15 = .ok (.ldc2_w 60, 3) := by decide +kernel
theorem dX8_drawsWet_18 : decode cX8_drawsWet 18 = .ok (.ladd, 1) := by decide +kernel
theorem dX8_drawsWet_19 : decode cX8_drawsWet 19 = .ok (.ldc2_w 62, 3) := by decide +kernel
theorem dX8_drawsWet_22 : decode cX8_drawsWet 22 = .ok (.land, 1) := by decide +kernel
theorem dX8_drawsWet_23 : decode cX8_drawsWet 23 = .ok (.putfield 43, 3) := by decide +kernel
theorem dX8_drawsWet_26 : decode cX8_drawsWet 26 = .ok (.aload_n 0, 1) := by decide +kernel
theorem dX8_drawsWet_27 : decode cX8_drawsWet 27 = .ok (.getfield 43, 3) := by decide +kernel
theorem dX8_drawsWet_30 : decode cX8_drawsWet 30 = .ok (.ldc2_w 64, 3) := by decide +kernel
theorem dX8_drawsWet_33 : decode cX8_drawsWet 33 = .ok (.ldiv, 1) := by decide +kernel
theorem dX8_drawsWet_34 : decode cX8_drawsWet 34 = .ok (.ldc2_w 66, 3) := by decide +kernel
theorem dX8_drawsWet_37 : decode cX8_drawsWet 37 = .ok (.lrem, 1) := by decide +kernel
theorem dX8_drawsWet_38 : decode cX8_drawsWet 38 = .ok (.iload_n 1, 1) := by decide +kernel
theorem dX8_drawsWet_39 : decode cX8_drawsWet 39 = .ok (.i2l, 1) := by decide +kernel
theorem dX8_drawsWet_40 : decode cX8_drawsWet 40 = .ok (.lcmp, 1) := by decide +kernel
theorem dX8_drawsWet_41 : decode cX8_drawsWet 41 = .ok (.ifCond .ge 7, 3) := by decide +kernel
theorem dX8_drawsWet_44 : decode cX8_drawsWet 44 = .ok (.iconst 1, 1) := by decide +kernel
theorem dX8_drawsWet_45 : decode cX8_drawsWet 45 = .ok (.goto 4, 3) := by decide +kernel
theorem dX8_drawsWet_48 : decode cX8_drawsWet 48 = .ok (.iconst 0, 1) := by decide +kernel
theorem dX8_drawsWet_49 : decode cX8_drawsWet 49 = .ok (.ireturn, 1) := by decide +kernel
theorem dX8_passDay_0 : decode cX8_passDay 0 = .ok (.iconst 0, 1) := by decide +kernel
theorem dX8_passDay_1 : decode cX8_passDay 1 = .ok (.istore_n 3, 1) := by decide +kernel
theorem dX8_passDay_2 : decode cX8_passDay 2 = .ok (.iload_n 3, 1) := by decide +kernel
theorem dX8_passDay_3 : decode cX8_passDay 3 = .ok (.aload_n 1, 1) := by decide +kernel
theorem dX8_passDay_4 : decode cX8_passDay 4 = .ok (.getfield 68, 3) := by decide +kernel
theorem dX8_passDay_7 : decode cX8_passDay 7 = .ok (.if_icmp .ge 40, 3) := by decide +kernel
theorem dX8_passDay_10 : decode cX8_passDay 10 = .ok (.iload_n 3, 1) := by decide +kernel
theorem dX8_passDay_11 : decode cX8_passDay 11 = .ok (.aload_n 0, 1) := by decide +kernel
theorem dX8_passDay_12 : decode cX8_passDay 12 = .ok (.getfield 21, 3) := by decide +kernel
theorem dX8_passDay_15 : decode cX8_passDay 15 = .ok (.if_icmp .eq 26, 3) := by decide +kernel
theorem dX8_passDay_18 : decode cX8_passDay 18 = .ok (.aload_n 0, 1) := by decide +kernel
theorem dX8_passDay_19 : decode cX8_passDay 19 = .ok (.getfield 24, 3) := by decide +kernel
theorem dX8_passDay_22 : decode cX8_passDay 22 = .ok (.iconst (-1), 1) := by decide +kernel
theorem dX8_passDay_23 : decode cX8_passDay 23 = .ok (.if_icmp .eq 11, 3) := by decide +kernel
theorem dX8_passDay_26 : decode cX8_passDay 26 = .ok (.aload_n 0, 1) := by decide +kernel
theorem dX8_passDay_27 : decode cX8_passDay 27 = .ok (.getfield 24, 3) := by decide +kernel
theorem dX8_passDay_30 : decode cX8_passDay 30 = .ok (.iload_n 3, 1) := by decide +kernel
theorem dX8_passDay_31 : decode cX8_passDay 31 = .ok (.if_icmp .ne 10, 3) := by decide +kernel
theorem dX8_passDay_34 : decode cX8_passDay 34 = .ok (.aload_n 0, 1) := by decide +kernel
theorem dX8_passDay_35 : decode cX8_passDay 35 = .ok (.aload_n 1, 1) := by decide +kernel
theorem dX8_passDay_36 : decode cX8_passDay 36 = .ok (.iload_n 3, 1) := by decide +kernel
theorem dX8_passDay_37 : decode cX8_passDay 37 = .ok (.iload_n 2, 1) := by decide +kernel
theorem dX8_passDay_38 : decode cX8_passDay 38 = .ok (.invokevirtual 71, 3) := by decide +kernel
theorem dX8_passDay_41 : decode cX8_passDay 41 = .ok (.iinc 3 1, 3) := by decide +kernel
theorem dX8_passDay_44 : decode cX8_passDay 44 = .ok (.goto (-42), 3) := by decide +kernel
theorem dX8_passDay_47 : decode cX8_passDay 47 = .ok (.aload_n 0, 1) := by decide +kernel
theorem dX8_passDay_48 : decode cX8_passDay 48 = .ok (.dup, 1) := by decide +kernel
theorem dX8_passDay_49 : decode cX8_passDay 49 = .ok (.getfield 32, 3) := by decide +kernel
theorem dX8_passDay_52 : decode cX8_passDay 52 = .ok (.iconst 1, 1) := by decide +kernel
theorem dX8_passDay_53 : decode cX8_passDay 53 = .ok (.iadd, 1) := by decide +kernel
theorem dX8_passDay_54 : decode cX8_passDay 54 = .ok (.putfield 32, 3) := by decide +kernel
theorem dX8_passDay_57 : decode cX8_passDay 57 = .ok (.iload_n 2, 1) := by decide +kernel
theorem dX8_passDay_58 : decode cX8_passDay 58 = .ok (.ifCond .eq 13, 3) := by decide +kernel
theorem dX8_passDay_61 : decode cX8_passDay 61 = .ok (.aload_n 0, 1) := by decide +kernel
theorem dX8_passDay_62 : decode cX8_passDay 62 = .ok (.dup, 1) := by decide +kernel
theorem dX8_passDay_63 : decode cX8_passDay 63 = .ok (.getfield 35, 3) := by decide +kernel
theorem dX8_passDay_66 : decode cX8_passDay 66 = .ok (.iconst 1, 1) := by decide +kernel
theorem dX8_passDay_67 : decode cX8_passDay 67 = .ok (.iadd, 1) := by decide +kernel
theorem dX8_passDay_68 : decode cX8_passDay 68 = .ok (.putfield 35, 3) := by decide +kernel
theorem dX8_passDay_71 : decode cX8_passDay 71 = .ok (.aload_n 1, 1) := by decide +kernel
theorem dX8_passDay_72 : decode cX8_passDay 72 = .ok (.getfield 75, 3) := by decide +kernel
theorem dX8_passDay_75 : decode cX8_passDay 75 = .ok (.ifCond .le 20, 3) := by decide +kernel
theorem dX8_passDay_78 : decode cX8_passDay 78 = .ok (.aload_n 0, 1) := by decide +kernel
theorem dX8_passDay_79 : decode cX8_passDay 79 = .ok (.getfield 32, 3) := by decide +kernel
theorem dX8_passDay_82 : decode cX8_passDay 82 = .ok (.aload_n 1, 1) := by decide +kernel
theorem dX8_passDay_83 : decode cX8_passDay 83 = .ok (.getfield 75, 3) := by decide +kernel
theorem dX8_passDay_86 : decode cX8_passDay 86 = .ok (.irem, 1) := by decide +kernel
theorem dX8_passDay_87 : decode cX8_passDay 87 = .ok (.ifCond .ne 8, 3) := by decide +kernel
theorem dX8_passDay_90 : decode cX8_passDay 90 = .ok (.aload_n 0, 1) := by decide +kernel
theorem dX8_passDay_91 : decode cX8_passDay 91 = .ok (.aload_n 1, 1) := by decide +kernel
theorem dX8_passDay_92 : decode cX8_passDay 92 = .ok (.invokevirtual 78, 3) := by decide +kernel
theorem dX8_passDay_95 : decode cX8_passDay 95 = .ok (.return_, 1) := by decide +kernel
theorem dX8_passPerson_0 : decode cX8_passPerson 0 = .ok (.aload_n 0, 1) := by decide +kernel
theorem dX8_passPerson_1 : decode cX8_passPerson 1 = .ok (.getfield 11, 3) := by decide +kernel
theorem dX8_passPerson_4 : decode cX8_passPerson 4 = .ok (.iload_n 2, 1) := by decide +kernel
theorem dX8_passPerson_5 : decode cX8_passPerson 5 = .ok (.aaload, 1) := by decide +kernel
theorem dX8_passPerson_6 : decode cX8_passPerson 6 = .ok (.astore 4, 2) := by decide +kernel
theorem dX8_passPerson_8 : decode cX8_passPerson 8 = .ok (.iload_n 3, 1) := by decide +kernel
theorem dX8_passPerson_9 : decode cX8_passPerson 9 = .ok (.ifCond .eq 13, 3) := by decide +kernel
theorem dX8_passPerson_12 : decode cX8_passPerson 12 = .ok (.aload 4, 2) := by decide +kernel
theorem dX8_passPerson_14 : decode cX8_passPerson 14 = .ok (.getfield 82, 3) := by decide +kernel
theorem dX8_passPerson_17 : decode cX8_passPerson 17 = .ok (.iconst 2, 1) := by decide +kernel
theorem dX8_passPerson_18 : decode cX8_passPerson 18 = .ok (.idiv, 1) := by decide +kernel
theorem dX8_passPerson_19 : decode cX8_passPerson 19 = .ok (.goto 8, 3) := by decide +kernel
theorem dX8_passPerson_22 : decode cX8_passPerson 22 = .ok (.aload 4, 2) := by decide +kernel
theorem dX8_passPerson_24 : decode cX8_passPerson 24 = .ok (.getfield 82, 3) := by decide +kernel
theorem dX8_passPerson_27 : decode cX8_passPerson 27 = .ok (.istore 5, 2) := by decide +kernel
theorem dX8_passPerson_29 : decode cX8_passPerson 29 = .ok (.iload 5, 2) := by decide +kernel
theorem dX8_passPerson_31 : decode cX8_passPerson 31 = .ok (.aload_n 1, 1) := by decide +kernel
theorem dX8_passPerson_32 : decode cX8_passPerson 32 = .ok (.aload_n 1, 1) := by decide +kernel
theorem dX8_passPerson_33 : decode cX8_passPerson 33 = .ok (.getfield 85, 3) := by decide +kernel
theorem dX8_passPerson_36 : decode cX8_passPerson 36 = .ok (.aload 4, 2) := by decide +kernel
theorem dX8_passPerson_38 : decode cX8_passPerson 38 = .ok (.getfield 89, 3) := by decide +kernel
theorem dX8_passPerson_41 : decode cX8_passPerson 41 = .ok (.invokevirtual 92, 3) := by decide +kernel
theorem dX8_passPerson_44 : decode cX8_passPerson 44 = .ok (.iadd, 1) := by decide +kernel
theorem dX8_passPerson_45 : decode cX8_passPerson 45 = .ok (.istore 6, 2) := by decide +kernel
theorem dX8_passPerson_47 : decode cX8_passPerson 47 = .ok (.aload 4, 2) := by decide +kernel
theorem dX8_passPerson_49 : decode cX8_passPerson 49 = .ok (.iload 5, 2) := by decide +kernel
theorem dX8_passPerson_51 : decode cX8_passPerson 51 = .ok (.aload_n 1, 1) := by decide +kernel
theorem dX8_passPerson_52 : decode cX8_passPerson 52 = .ok (.invokevirtual 96, 3) := by decide +kernel
theorem dX8_passPerson_55 : decode cX8_passPerson 55 = .ok (.istore 7, 2) := by decide +kernel
theorem dX8_passPerson_57 : decode cX8_passPerson 57 = .ok (.iload 7, 2) := by decide +kernel
theorem dX8_passPerson_59 : decode cX8_passPerson 59 = .ok (.aload 4, 2) := by decide +kernel
theorem dX8_passPerson_61 : decode cX8_passPerson 61 = .ok (.getfield 100, 3) := by decide +kernel
theorem dX8_passPerson_64 : decode cX8_passPerson 64 = .ok (.if_icmp .ge 70, 3) := by decide +kernel
theorem dX8_passPerson_67 : decode cX8_passPerson 67 = .ok (.aload 4, 2) := by decide +kernel
theorem dX8_passPerson_69 : decode cX8_passPerson 69 = .ok (.getfield 103, 3) := by decide +kernel
theorem dX8_passPerson_72 : decode cX8_passPerson 72 = .ok (.ifCond .eq 62, 3) := by decide +kernel
theorem dX8_passPerson_75 : decode cX8_passPerson 75 = .ok (.aload_n 0, 1) := by decide +kernel
theorem dX8_passPerson_76 : decode cX8_passPerson 76 = .ok (.getfield 54, 3) := by decide +kernel
theorem dX8_passPerson_79 : decode cX8_passPerson 79 = .ok (.ifCond .ne 55, 3) := by decide +kernel
theorem dX8_passPerson_82 : decode cX8_passPerson 82 = .ok (.aload 4, 2) := by decide +kernel
theorem dX8_passPerson_84 : decode cX8_passPerson 84 = .ok (.getfield 100, 3) := by decide +kernel
theorem dX8_passPerson_87 : decode cX8_passPerson 87 = .ok (.iload 7, 2) := by decide +kernel
theorem dX8_passPerson_89 : decode cX8_passPerson 89 = .ok (.isub, 1) := by decide +kernel
theorem dX8_passPerson_90 : decode cX8_passPerson 90 = .ok (.aload_n 0, 1) := by decide +kernel
theorem dX8_passPerson_91 : decode cX8_passPerson 91 = .ok (.aload_n 1, 1) := by decide +kernel
theorem dX8_passPerson_92 : decode cX8_passPerson 92 = .ok (.getfield 106, 3) := by decide +kernel
theorem dX8_passPerson_95 : decode cX8_passPerson 95 = .ok (.iconst 0, 1) := by decide +kernel
theorem dX8_passPerson_96 : decode cX8_passPerson 96 = .ok (.aload 4, 2) := by decide +kernel
theorem dX8_passPerson_98 : decode cX8_passPerson 98 = .ok (.iload 7, 2) := by decide +kernel
theorem dX8_passPerson_100 : decode cX8_passPerson 100 = .ok (.bipush 99, 2) := by decide +kernel
theorem dX8_passPerson_102 : decode cX8_passPerson 102 = .ok (.aload_n 1, 1) := by decide +kernel
theorem dX8_passPerson_103 : decode cX8_passPerson 103 = .ok (.getfield 110, 3) := by decide +kernel
theorem dX8_passPerson_106 : decode cX8_passPerson 106 = .ok (.iload_n 2, 1) := by decide +kernel
theorem dX8_passPerson_107 : decode cX8_passPerson 107 = .ok (.iaload, 1) := by decide +kernel
theorem dX8_passPerson_108 : decode cX8_passPerson 108 = .ok (.invokevirtual 113, 3) := by decide +kernel
theorem dX8_passPerson_111 : decode cX8_passPerson 111 = .ok (.if_icmp .gt 23, 3) := by decide +kernel
theorem dX8_passPerson_114 : decode cX8_passPerson 114 = .ok (.iload 6, 2) := by decide +kernel
theorem dX8_passPerson_116 : decode cX8_passPerson 116 = .ok (.aload 4, 2) := by decide +kernel
theorem dX8_passPerson_118 : decode cX8_passPerson 118 = .ok (.getfield 100, 3) := by decide +kernel
theorem dX8_passPerson_121 : decode cX8_passPerson 121 = .ok (.iload 7, 2) := by decide +kernel
theorem dX8_passPerson_123 : decode cX8_passPerson 123 = .ok (.isub, 1) := by decide +kernel
theorem dX8_passPerson_124 : decode cX8_passPerson 124 = .ok (.iadd, 1) := by decide +kernel
theorem dX8_passPerson_125 : decode cX8_passPerson 125 = .ok (.istore 6, 2) := by decide +kernel
theorem dX8_passPerson_127 : decode cX8_passPerson 127 = .ok (.aload 4, 2) := by decide +kernel
theorem dX8_passPerson_129 : decode cX8_passPerson 129 = .ok (.getfield 100, 3) := by decide +kernel
theorem dX8_passPerson_132 : decode cX8_passPerson 132 = .ok (.istore 7, 2) := by decide +kernel
theorem dX8_passPerson_134 : decode cX8_passPerson 134 = .ok (.iload 7, 2) := by decide +kernel
theorem dX8_passPerson_136 : decode cX8_passPerson 136 = .ok (.aload 4, 2) := by decide +kernel
theorem dX8_passPerson_138 : decode cX8_passPerson 138 = .ok (.getfield 100, 3) := by decide +kernel
theorem dX8_passPerson_141 : decode cX8_passPerson 141 = .ok (.if_icmp .lt 7, 3) := by decide +kernel
theorem dX8_passPerson_144 : decode cX8_passPerson 144 = .ok (.iconst 1, 1) := by decide +kernel
theorem dX8_passPerson_145 : decode cX8_passPerson 145 = .ok (.goto 4, 3) := by decide +kernel
theorem dX8_passPerson_148 : decode cX8_passPerson 148 = .ok (.iconst 0, 1) := by decide +kernel
theorem dX8_passPerson_149 : decode cX8_passPerson 149 = .ok (.istore 8, 2) := by decide +kernel
theorem dX8_passPerson_151 : decode cX8_passPerson 151 = .ok (.aload 4, 2) := by decide +kernel
theorem dX8_passPerson_153 : decode cX8_passPerson 153 = .ok (.getfield 117, 3) := by decide +kernel
theorem dX8_passPerson_156 : decode cX8_passPerson 156 = .ok (.istore 9, 2) := by decide +kernel
theorem dX8_passPerson_158 : decode cX8_passPerson 158 = .ok (.aload 4, 2) := by decide +kernel
theorem dX8_passPerson_160 : decode cX8_passPerson 160 = .ok (.iload 8, 2) := by decide +kernel
theorem dX8_passPerson_162 : decode cX8_passPerson 162 = .ok (.ifCond .eq 10, 3) := by decide +kernel
theorem dX8_passPerson_165 : decode cX8_passPerson 165 = .ok (.iload 9, 2) := by decide +kernel
theorem dX8_passPerson_167 : decode cX8_passPerson 167 = .ok (.iconst 1, 1) := by decide +kernel
theorem dX8_passPerson_168 : decode cX8_passPerson 168 = .ok (.iadd, 1) := by decide +kernel
theorem dX8_passPerson_169 : decode cX8_passPerson 169 = .ok (.goto 4, 3) := by decide +kernel
theorem dX8_passPerson_172 : decode cX8_passPerson 172 = .ok (.iconst 0, 1) := by decide +kernel
theorem dX8_passPerson_173 : decode cX8_passPerson 173 = .ok (.putfield 117, 3) := by decide +kernel
theorem dX8_passPerson_176 : decode cX8_passPerson 176 = .ok (.iload 8, 2) := by decide +kernel
theorem dX8_passPerson_178 : decode cX8_passPerson 178 = .ok (.ifCond .ne 19, 3) := by decide +kernel
theorem dX8_passPerson_181 : decode cX8_passPerson 181 = .ok (.iload 9, 2) := by decide +kernel
theorem dX8_passPerson_183 : decode cX8_passPerson 183 = .ok (.ifCond .le 14, 3) := by decide +kernel
theorem dX8_passPerson_186 : decode cX8_passPerson 186 = .ok (.aload 4, 2) := by decide +kernel
theorem dX8_passPerson_188 : decode cX8_passPerson 188 = .ok (.dup, 1) := by decide +kernel
theorem dX8_passPerson_189 : decode cX8_passPerson 189 = .ok (.getfield 120, 3) := by decide +kernel
theorem dX8_passPerson_192 : decode cX8_passPerson 192 = .ok (.iconst 1, 1) := by decide +kernel
theorem dX8_passPerson_193 : decode cX8_passPerson 193 = .ok (.iadd, 1) := by decide +kernel
theorem dX8_passPerson_194 : decode cX8_passPerson 194 = .ok (.putfield 120, 3) := by decide +kernel
theorem dX8_passPerson_197 : decode cX8_passPerson 197 = .ok (.aload 4, 2) := by decide +kernel
theorem dX8_passPerson_199 : decode cX8_passPerson 199 = .ok (.dup, 1) := by decide +kernel
theorem dX8_passPerson_200 : decode cX8_passPerson 200 = .ok (.getfield 123, 3) := by decide +kernel
theorem dX8_passPerson_203 : decode cX8_passPerson 203 = .ok (.iload 6, 2) := by decide +kernel
theorem dX8_passPerson_205 : decode cX8_passPerson 205 = .ok (.iadd, 1) := by decide +kernel
theorem dX8_passPerson_206 : decode cX8_passPerson 206 = .ok (.putfield 123, 3) := by decide +kernel
theorem dX8_passPerson_209 : decode cX8_passPerson 209 = .ok (.aload 4, 2) := by decide +kernel
theorem dX8_passPerson_211 : decode cX8_passPerson 211 = .ok (.dup, 1) := by decide +kernel
theorem dX8_passPerson_212 : decode cX8_passPerson 212 = .ok (.getfield 126, 3) := by decide +kernel
theorem dX8_passPerson_215 : decode cX8_passPerson 215 = .ok (.iload 7, 2) := by decide +kernel
theorem dX8_passPerson_217 : decode cX8_passPerson 217 = .ok (.iadd, 1) := by decide +kernel
theorem dX8_passPerson_218 : decode cX8_passPerson 218 = .ok (.putfield 126, 3) := by decide +kernel
theorem dX8_passPerson_221 : decode cX8_passPerson 221 = .ok (.iload 7, 2) := by decide +kernel
theorem dX8_passPerson_223 : decode cX8_passPerson 223 = .ok (.aload_n 1, 1) := by decide +kernel
theorem dX8_passPerson_224 : decode cX8_passPerson 224 = .ok (.getfield 129, 3) := by decide +kernel
theorem dX8_passPerson_227 : decode cX8_passPerson 227 = .ok (.if_icmp .lt 17, 3) := by decide +kernel
theorem dX8_passPerson_230 : decode cX8_passPerson 230 = .ok (.aload 4, 2) := by decide +kernel
theorem dX8_passPerson_232 : decode cX8_passPerson 232 = .ok (.dup, 1) := by decide +kernel
theorem dX8_passPerson_233 : decode cX8_passPerson 233 = .ok (.getfield 132, 3) := by decide +kernel
theorem dX8_passPerson_236 : decode cX8_passPerson 236 = .ok (.aload_n 1, 1) := by decide +kernel
theorem dX8_passPerson_237 : decode cX8_passPerson 237 = .ok (.getfield 135, 3) := by decide +kernel
theorem dX8_passPerson_240 : decode cX8_passPerson 240 = .ok (.iadd, 1) := by decide +kernel
theorem dX8_passPerson_241 : decode cX8_passPerson 241 = .ok (.putfield 132, 3) := by decide +kernel
theorem dX8_passPerson_244 : decode cX8_passPerson 244 = .ok (.aload 4, 2) := by decide +kernel
theorem dX8_passPerson_246 : decode cX8_passPerson 246 = .ok (.dup, 1) := by decide +kernel
theorem dX8_passPerson_247 : decode cX8_passPerson 247 = .ok (.getfield 136, 3) := by decide +kernel
theorem dX8_passPerson_250 : decode cX8_passPerson 250 = .ok (.aload_n 0, 1) := by decide +kernel
theorem dX8_passPerson_251 : decode cX8_passPerson 251 = .ok (.aload_n 1, 1) := by decide +kernel
theorem dX8_passPerson_252 : decode cX8_passPerson 252 = .ok (.getfield 106, 3) := by decide +kernel
theorem dX8_passPerson_255 : decode cX8_passPerson 255 = .ok (.iconst 2, 1) := by decide +kernel
theorem dX8_passPerson_256 : decode cX8_passPerson 256 = .ok (.aload 4, 2) := by decide +kernel
theorem dX8_passPerson_258 : decode cX8_passPerson 258 = .ok (.iload 7, 2) := by decide +kernel
theorem dX8_passPerson_260 : decode cX8_passPerson 260 = .ok (.sipush 999, 3) := by decide +kernel
theorem dX8_passPerson_263 : decode cX8_passPerson 263 = .ok (.iload 7, 2) := by decide +kernel
theorem dX8_passPerson_265 : decode cX8_passPerson 265 = .ok (.sipush 999, 3) := by decide +kernel
theorem dX8_passPerson_268 : decode cX8_passPerson 268 = .ok (.invokestatic 139, 3) := by decide +kernel
theorem dX8_passPerson_271 : decode cX8_passPerson 271 = .ok (.invokevirtual 113, 3) := by decide +kernel
theorem dX8_passPerson_274 : decode cX8_passPerson 274 = .ok (.iadd, 1) := by decide +kernel
theorem dX8_passPerson_275 : decode cX8_passPerson 275 = .ok (.putfield 136, 3) := by decide +kernel
theorem dX8_passPerson_278 : decode cX8_passPerson 278 = .ok (.aload 4, 2) := by decide +kernel
theorem dX8_passPerson_280 : decode cX8_passPerson 280 = .ok (.aload_n 0, 1) := by decide +kernel
theorem dX8_passPerson_281 : decode cX8_passPerson 281 = .ok (.aload_n 1, 1) := by decide +kernel
theorem dX8_passPerson_282 : decode cX8_passPerson 282 = .ok (.getfield 106, 3) := by decide +kernel
theorem dX8_passPerson_285 : decode cX8_passPerson 285 = .ok (.iconst 1, 1) := by decide +kernel
theorem dX8_passPerson_286 : decode cX8_passPerson 286 = .ok (.aload 4, 2) := by decide +kernel
theorem dX8_passPerson_288 : decode cX8_passPerson 288 = .ok (.iload 7, 2) := by decide +kernel
theorem dX8_passPerson_290 : decode cX8_passPerson 290 = .ok (.bipush 99, 2) := by decide +kernel
theorem dX8_passPerson_292 : decode cX8_passPerson 292 = .ok (.aload 4, 2) := by decide +kernel
theorem dX8_passPerson_294 : decode cX8_passPerson 294 = .ok (.iload 9, 2) := by decide +kernel
theorem dX8_passPerson_296 : decode cX8_passPerson 296 = .ok (.invokestatic 145, 3) := by decide +kernel
theorem dX8_passPerson_299 : decode cX8_passPerson 299 = .ok (.invokevirtual 113, 3) := by decide +kernel
theorem dX8_passPerson_302 : decode cX8_passPerson 302 = .ok (.putfield 82, 3) := by decide +kernel
theorem dX8_passPerson_305 : decode cX8_passPerson 305 = .ok (.aload 4, 2) := by decide +kernel
theorem dX8_passPerson_307 : decode cX8_passPerson 307 = .ok (.iconst 0, 1) := by decide +kernel
theorem dX8_passPerson_308 : decode cX8_passPerson 308 = .ok (.putfield 149, 3) := by decide +kernel
theorem dX8_passPerson_311 : decode cX8_passPerson 311 = .ok (.return_, 1) := by decide +kernel
theorem dX8_habitOf_0 : decode cX8_habitOf 0 = .ok (.aload_n 0, 1) := by decide +kernel
theorem dX8_habitOf_1 : decode cX8_habitOf 1 = .ok (.getfield 117, 3) := by decide +kernel
theorem dX8_habitOf_4 : decode cX8_habitOf 4 = .ok (.ifCond .le 25, 3) := by decide +kernel
theorem dX8_habitOf_7 : decode cX8_habitOf 7 = .ok (.aload_n 0, 1) := by decide +kernel
theorem dX8_habitOf_8 : decode cX8_habitOf 8 = .ok (.getfield 117, 3) := by decide +kernel
theorem dX8_habitOf_11 : decode cX8_habitOf 11 = .ok (.bipush 7, 2) := by decide +kernel
theorem dX8_habitOf_13 : decode cX8_habitOf 13 = .ok (.irem, 1) := by decide +kernel
theorem dX8_habitOf_14 : decode cX8_habitOf 14 = .ok (.ifCond .ne 15, 3) := by decide +kernel
theorem dX8_habitOf_17 : decode cX8_habitOf 17 = .ok (.bipush 99, 2) := by decide +kernel
theorem dX8_habitOf_19 : decode cX8_habitOf 19 = .ok (.aload_n 0, 1) := by decide +kernel
theorem dX8_habitOf_20 : decode cX8_habitOf 20 = .ok (.getfield 82, 3) := by decide +kernel
theorem dX8_habitOf_23 : decode cX8_habitOf 23 = .ok (.iconst 1, 1) := by decide +kernel
theorem dX8_habitOf_24 : decode cX8_habitOf 24 = .ok (.iadd, 1) := by decide +kernel
theorem dX8_habitOf_25 : decode cX8_habitOf 25 = .ok (.invokestatic 139, 3) := by decide +kernel
theorem dX8_habitOf_28 : decode cX8_habitOf 28 = .ok (.ireturn, 1) := by decide +kernel
theorem dX8_habitOf_29 : decode cX8_habitOf 29 = .ok (.aload_n 0, 1) := by decide +kernel
theorem dX8_habitOf_30 : decode cX8_habitOf 30 = .ok (.getfield 117, 3) := by decide +kernel
theorem dX8_habitOf_33 : decode cX8_habitOf 33 = .ok (.ifCond .ne 21, 3) := by decide +kernel
theorem dX8_habitOf_36 : decode cX8_habitOf 36 = .ok (.iload_n 1, 1) := by decide +kernel
theorem dX8_habitOf_37 : decode cX8_habitOf 37 = .ok (.iconst 3, 1) := by decide +kernel
theorem dX8_habitOf_38 : decode cX8_habitOf 38 = .ok (.if_icmp .lt 16, 3) := by decide +kernel
theorem dX8_habitOf_41 : decode cX8_habitOf 41 = .ok (.iconst 0, 1) := by decide +kernel
theorem dX8_habitOf_42 : decode cX8_habitOf 42 = .ok (.aload_n 0, 1) := by decide +kernel
theorem dX8_habitOf_43 : decode cX8_habitOf 43 = .ok (.getfield 82, 3) := by decide +kernel
theorem dX8_habitOf_46 : decode cX8_habitOf 46 = .ok (.iconst 1, 1) := by decide +kernel
theorem dX8_habitOf_47 : decode cX8_habitOf 47 = .ok (.isub, 1) := by decide +kernel
theorem dX8_habitOf_48 : decode cX8_habitOf 48 = .ok (.invokestatic 152, 3) := by decide +kernel
theorem dX8_habitOf_51 : decode cX8_habitOf 51 = .ok (.goto 7, 3) := by decide +kernel
theorem dX8_habitOf_54 : decode cX8_habitOf 54 = .ok (.aload_n 0, 1) := by decide +kernel
theorem dX8_habitOf_55 : decode cX8_habitOf 55 = .ok (.getfield 82, 3) := by decide +kernel
theorem dX8_habitOf_58 : decode cX8_habitOf 58 = .ok (.ireturn, 1) := by decide +kernel
theorem dX8_givePot_0 : decode cX8_givePot 0 = .ok (.aload_n 0, 1) := by decide +kernel
theorem dX8_givePot_1 : decode cX8_givePot 1 = .ok (.aload_n 0, 1) := by decide +kernel
theorem dX8_givePot_2 : decode cX8_givePot 2 = .ok (.aload_n 1, 1) := by decide +kernel
theorem dX8_givePot_3 : decode cX8_givePot 3 = .ok (.getfield 68, 3) := by decide +kernel
theorem dX8_givePot_6 : decode cX8_givePot 6 = .ok (.invokevirtual 155, 3) := by decide +kernel
theorem dX8_givePot_9 : decode cX8_givePot 9 = .ok (.putfield 17, 3) := by decide +kernel
theorem dX8_givePot_12 : decode cX8_givePot 12 = .ok (.aload_n 0, 1) := by decide +kernel
theorem dX8_givePot_13 : decode cX8_givePot 13 = .ok (.getfield 17, 3) := by decide +kernel
theorem dX8_givePot_16 : decode cX8_givePot 16 = .ok (.iconst (-1), 1) := by decide +kernel
theorem dX8_givePot_17 : decode cX8_givePot 17 = .ok (.if_icmp .eq 24, 3) := by decide +kernel
theorem dX8_givePot_20 : decode cX8_givePot 20 = .ok (.aload_n 0, 1) := by decide +kernel
theorem dX8_givePot_21 : decode cX8_givePot 21 = .ok (.getfield 11, 3) := by decide +kernel
theorem dX8_givePot_24 : decode cX8_givePot 24 = .ok (.aload_n 0, 1) := by decide +kernel
theorem dX8_givePot_25 : decode cX8_givePot 25 = .ok (.getfield 17, 3) := by decide +kernel
theorem dX8_givePot_28 : decode cX8_givePot 28 = .ok (.aaload, 1) := by decide +kernel
theorem dX8_givePot_29 : decode cX8_givePot 29 = .ok (.dup, 1) := by decide +kernel
theorem dX8_givePot_30 : decode cX8_givePot 30 = .ok (.getfield 159, 3) := by decide +kernel
theorem dX8_givePot_33 : decode cX8_givePot 33 = .ok (.aload_n 1, 1) := by decide +kernel
theorem dX8_givePot_34 : decode cX8_givePot 34 = .ok (.getfield 162, 3) := by decide +kernel
theorem dX8_givePot_37 : decode cX8_givePot 37 = .ok (.iadd, 1) := by decide +kernel
theorem dX8_givePot_38 : decode cX8_givePot 38 = .ok (.putfield 159, 3) := by decide +kernel
theorem dX8_givePot_41 : decode cX8_givePot 41 = .ok (.iconst 0, 1) := by decide +kernel
theorem dX8_givePot_42 : decode cX8_givePot 42 = .ok (.istore_n 2, 1) := by decide +kernel
theorem dX8_givePot_43 : decode cX8_givePot 43 = .ok (.iload_n 2, 1) := by decide +kernel
theorem dX8_givePot_44 : decode cX8_givePot 44 = .ok (.aload_n 1, 1) := by decide +kernel
theorem dX8_givePot_45 : decode cX8_givePot 45 = .ok (.getfield 68, 3) := by decide +kernel
theorem dX8_givePot_48 : decode cX8_givePot 48 = .ok (.if_icmp .ge 19, 3) := by decide +kernel
theorem dX8_givePot_51 : decode cX8_givePot 51 = .ok (.aload_n 0, 1) := by decide +kernel
theorem dX8_givePot_52 : decode cX8_givePot 52 = .ok (.getfield 11, 3) := by decide +kernel
theorem dX8_givePot_55 : decode cX8_givePot 55 = .ok (.iload_n 2, 1) := by decide +kernel
theorem dX8_givePot_56 : decode cX8_givePot 56 = .ok (.aaload, 1) := by decide +kernel
theorem dX8_givePot_57 : decode cX8_givePot 57 = .ok (.iconst 0, 1) := by decide +kernel
theorem dX8_givePot_58 : decode cX8_givePot 58 = .ok (.putfield 136, 3) := by decide +kernel
theorem dX8_givePot_61 : decode cX8_givePot 61 = .ok (.iinc 2 1, 3) := by decide +kernel
theorem dX8_givePot_64 : decode cX8_givePot 64 = .ok (.goto (-21), 3) := by decide +kernel
theorem dX8_givePot_67 : decode cX8_givePot 67 = .ok (.return_, 1) := by decide +kernel
theorem dX8_greatest_0 : decode cX8_greatest 0 = .ok (.iconst (-1), 1) := by decide +kernel
theorem dX8_greatest_1 : decode cX8_greatest 1 = .ok (.istore_n 2, 1) := by decide +kernel
theorem dX8_greatest_2 : decode cX8_greatest 2 = .ok (.iconst 0, 1) := by decide +kernel
theorem dX8_greatest_3 : decode cX8_greatest 3 = .ok (.istore_n 3, 1) := by decide +kernel
theorem dX8_greatest_4 : decode cX8_greatest 4 = .ok (.iload_n 3, 1) := by decide +kernel
theorem dX8_greatest_5 : decode cX8_greatest 5 = .ok (.iload_n 1, 1) := by decide +kernel
theorem dX8_greatest_6 : decode cX8_greatest 6 = .ok (.if_icmp .ge 45, 3) := by decide +kernel
theorem dX8_greatest_9 : decode cX8_greatest 9 = .ok (.iload_n 3, 1) := by decide +kernel
theorem dX8_greatest_10 : decode cX8_greatest 10 = .ok (.aload_n 0, 1) := by decide +kernel
theorem dX8_greatest_11 : decode cX8_greatest 11 = .ok (.getfield 21, 3) := by decide +kernel
theorem dX8_greatest_14 : decode cX8_greatest 14 = .ok (.if_icmp .eq 31, 3) := by decide +kernel
theorem dX8_greatest_17 : decode cX8_greatest 17 = .ok (.iload_n 2, 1) := by decide +kernel
theorem dX8_greatest_18 : decode cX8_greatest 18 = .ok (.iconst (-1), 1) := by decide +kernel
theorem dX8_greatest_19 : decode cX8_greatest 19 = .ok (.if_icmp .eq 24, 3) := by decide +kernel
theorem dX8_greatest_22 : decode cX8_greatest 22 = .ok (.aload_n 0, 1) := by decide +kernel
theorem dX8_greatest_23 : decode cX8_greatest 23 = .ok (.getfield 11, 3) := by decide +kernel
theorem dX8_greatest_26 : decode cX8_greatest 26 = .ok (.iload_n 3, 1) := by decide +kernel
theorem dX8_greatest_27 : decode cX8_greatest 27 = .ok (.aaload, 1) := by decide +kernel
theorem dX8_greatest_28 : decode cX8_greatest 28 = .ok (.getfield 136, 3) := by decide +kernel
theorem dX8_greatest_31 : decode cX8_greatest 31 = .ok (.aload_n 0, 1) := by decide +kernel
theorem dX8_greatest_32 : decode cX8_greatest 32 = .ok (.getfield 11, 3) := by decide +kernel
theorem dX8_greatest_35 : decode cX8_greatest 35 = .ok (.iload_n 2, 1) := by decide +kernel
theorem dX8_greatest_36 : decode cX8_greatest 36 = .ok (.aaload, 1) := by decide +kernel
theorem dX8_greatest_37 : decode cX8_greatest 37 = .ok (.getfield 136, 3) := by decide +kernel
theorem dX8_greatest_40 : decode cX8_greatest 40 = .ok (.if_icmp .le 5, 3) := by decide +kernel
theorem dX8_greatest_43 : decode cX8_greatest 43 = .ok (.iload_n 3, 1) := by decide +kernel
theorem dX8_greatest_44 : decode cX8_greatest 44 = .ok (.istore_n 2, 1) := by decide +kernel
theorem dX8_greatest_45 : decode cX8_greatest 45 = .ok (.iinc 3 1, 3) := by decide +kernel
theorem dX8_greatest_48 : decode cX8_greatest 48 = .ok (.goto (-44), 3) := by decide +kernel
theorem dX8_greatest_51 : decode cX8_greatest 51 = .ok (.iload_n 2, 1) := by decide +kernel
theorem dX8_greatest_52 : decode cX8_greatest 52 = .ok (.ireturn, 1) := by decide +kernel
theorem dX8_ruled_0 : decode cX8_ruled 0 = .ok (.aload_n 1, 1) := by decide +kernel
theorem dX8_ruled_1 : decode cX8_ruled 1 = .ok (.iload_n 2, 1) := by decide +kernel
theorem dX8_ruled_2 : decode cX8_ruled 2 = .ok (.invokevirtual 165, 3) := by decide +kernel
theorem dX8_ruled_5 : decode cX8_ruled 5 = .ok (.ifCond .ne 6, 3) := by decide +kernel
theorem dX8_ruled_8 : decode cX8_ruled 8 = .ok (.iload 6, 2) := by decide +kernel
theorem dX8_ruled_10 : decode cX8_ruled 10 = .ok (.ireturn, 1) := by decide +kernel
theorem dX8_ruled_11 : decode cX8_ruled 11 = .ok (.aload_n 0, 1) := by decide +kernel
theorem dX8_ruled_12 : decode cX8_ruled 12 = .ok (.aload_n 1, 1) := by decide +kernel
theorem dX8_ruled_13 : decode cX8_ruled 13 = .ok (.aload_n 3, 1) := by decide +kernel
theorem dX8_ruled_14 : decode cX8_ruled 14 = .ok (.iload 4, 2) := by decide +kernel
theorem dX8_ruled_16 : decode cX8_ruled 16 = .ok (.invokevirtual 171, 3) := by decide +kernel
theorem dX8_ruled_19 : decode cX8_ruled 19 = .ok (.aload_n 1, 1) := by decide +kernel
theorem dX8_ruled_20 : decode cX8_ruled 20 = .ok (.iload_n 2, 1) := by decide +kernel
theorem dX8_ruled_21 : decode cX8_ruled 21 = .ok (.invokevirtual 175, 3) := by decide +kernel
theorem dX8_ruled_24 : decode cX8_ruled 24 = .ok (.ifCond .ne 6, 3) := by decide +kernel
theorem dX8_ruled_27 : decode cX8_ruled 27 = .ok (.iload 6, 2) := by decide +kernel
theorem dX8_ruled_29 : decode cX8_ruled 29 = .ok (.ireturn, 1) := by decide +kernel
theorem dX8_ruled_30 : decode cX8_ruled 30 = .ok (.lconst 0, 1) := by decide +kernel
theorem dX8_ruled_31 : decode cX8_ruled 31 = .ok (.iload 5, 2) := by decide +kernel
theorem dX8_ruled_33 : decode cX8_ruled 33 = .ok (.i2l, 1) := by decide +kernel
theorem dX8_ruled_34 : decode cX8_ruled 34 = .ok (.aload_n 1, 1) := by decide +kernel
theorem dX8_ruled_35 : decode cX8_ruled 35 = .ok (.getfield 178, 3) := by decide +kernel
theorem dX8_ruled_38 : decode cX8_ruled 38 = .ok (.invokestatic 181, 3) := by decide +kernel
theorem dX8_ruled_41 : decode cX8_ruled 41 = .ok (.invokestatic 184, 3) := by decide +kernel
theorem dX8_ruled_44 : decode cX8_ruled 44 = .ok (.l2i, 1) := by decide +kernel
theorem dX8_ruled_45 : decode cX8_ruled 45 = .ok (.ireturn, 1) := by decide +kernel
theorem dX8_setNames_0 : decode cX8_setNames 0 = .ok (.aload_n 2, 1) := by decide +kernel
theorem dX8_setNames_1 : decode cX8_setNames 1 = .ok (.getfield 136, 3) := by decide +kernel
theorem dX8_setNames_4 : decode cX8_setNames 4 = .ok (.istore 4, 2) := by decide +kernel
theorem dX8_setNames_6 : decode cX8_setNames 6 = .ok (.iconst 0, 1) := by decide +kernel
theorem dX8_setNames_7 : decode cX8_setNames 7 = .ok (.istore 5, 2) := by decide +kernel
theorem dX8_setNames_9 : decode cX8_setNames 9 = .ok (.iload 5, 2) := by decide +kernel
theorem dX8_setNames_11 : decode cX8_setNames 11 = .ok (.iconst 5, 1) := by decide +kernel
theorem dX8_setNames_12 : decode cX8_setNames 12 = .ok (.if_icmp .ge 42, 3) := by decide +kernel
theorem dX8_setNames_15 : decode cX8_setNames 15 = .ok (.aload_n 1, 1) := by decide +kernel
theorem dX8_setNames_16 : decode cX8_setNames 16 = .ok (.invokevirtual 186, 3) := by decide +kernel
theorem dX8_setNames_19 : decode cX8_setNames 19 = .ok (.ifCond .eq 35, 3) := by decide +kernel
theorem dX8_setNames_22 : decode cX8_setNames 22 = .ok (.iload 5, 2) := by decide +kernel
theorem dX8_setNames_24 : decode cX8_setNames 24 = .ok (.aload_n 0, 1) := by decide +kernel
theorem dX8_setNames_25 : decode cX8_setNames 25 = .ok (.getfield 21, 3) := by decide +kernel
theorem dX8_setNames_28 : decode cX8_setNames 28 = .ok (.if_icmp .eq 20, 3) := by decide +kernel
theorem dX8_setNames_31 : decode cX8_setNames 31 = .ok (.iload 4, 2) := by decide +kernel
theorem dX8_setNames_33 : decode cX8_setNames 33 = .ok (.aload_n 0, 1) := by decide +kernel
theorem dX8_setNames_34 : decode cX8_setNames 34 = .ok (.getfield 11, 3) := by decide +kernel
theorem dX8_setNames_37 : decode cX8_setNames 37 = .ok (.iload 5, 2) := by decide +kernel
theorem dX8_setNames_39 : decode cX8_setNames 39 = .ok (.aaload, 1) := by decide +kernel
theorem dX8_setNames_40 : decode cX8_setNames 40 = .ok (.getfield 136, 3) := by decide +kernel
theorem dX8_setNames_43 : decode cX8_setNames 43 = .ok (.invokestatic 152, 3) := by decide +kernel
theorem dX8_setNames_46 : decode cX8_setNames 46 = .ok (.istore 4, 2) := by decide +kernel
theorem dX8_setNames_48 : decode cX8_setNames 48 = .ok (.iinc 5 1, 3) := by decide +kernel
theorem dX8_setNames_51 : decode cX8_setNames 51 = .ok (.goto (-42), 3) := by decide +kernel
theorem dX8_setNames_54 : decode cX8_setNames 54 = .ok (.aload_n 1, 1) := by decide +kernel
theorem dX8_setNames_55 : decode cX8_setNames 55 = .ok (.getfield 190, 3) := by decide +kernel
theorem dX8_setNames_58 : decode cX8_setNames 58 = .ok (.iconst 0, 1) := by decide +kernel
theorem dX8_setNames_59 : decode cX8_setNames 59 = .ok (.aload_n 2, 1) := by decide +kernel
theorem dX8_setNames_60 : decode cX8_setNames 60 = .ok (.getfield 82, 3) := by decide +kernel
theorem dX8_setNames_63 : decode cX8_setNames 63 = .ok (.i2l, 1) := by decide +kernel
theorem dX8_setNames_64 : decode cX8_setNames 64 = .ok (.lastore, 1) := by decide +kernel
theorem dX8_setNames_65 : decode cX8_setNames 65 = .ok (.aload_n 1, 1) := by decide +kernel
theorem dX8_setNames_66 : decode cX8_setNames 66 = .ok (.getfield 190, 3) := by decide +kernel
theorem dX8_setNames_69 : decode cX8_setNames 69 = .ok (.iconst 1, 1) := by decide +kernel
theorem dX8_setNames_70 : decode cX8_setNames 70 = .ok (.aload_n 2, 1) := by decide +kernel
theorem dX8_setNames_71 : decode cX8_setNames 71 = .ok (.getfield 100, 3) := by decide +kernel
theorem dX8_setNames_74 : decode cX8_setNames 74 = .ok (.i2l, 1) := by decide +kernel
theorem dX8_setNames_75 : decode cX8_setNames 75 = .ok (.lastore, 1) := by decide +kernel
theorem dX8_setNames_76 : decode cX8_setNames 76 = .ok (.aload_n 1, 1) := by decide +kernel
theorem dX8_setNames_77 : decode cX8_setNames 77 = .ok (.getfield 190, 3) := by decide +kernel
theorem dX8_setNames_80 : decode cX8_setNames 80 = .ok (.iconst 2, 1) := by decide +kernel
theorem dX8_setNames_81 : decode cX8_setNames 81 = .ok (.iload_n 3, 1) := by decide +kernel
theorem dX8_setNames_82 : decode cX8_setNames 82 = .ok (.i2l, 1) := by decide +kernel
theorem dX8_setNames_83 : decode cX8_setNames 83 = .ok (.lastore, 1) := by decide +kernel
theorem dX8_setNames_84 : decode cX8_setNames 84 = .ok (.aload_n 1, 1) := by decide +kernel
theorem dX8_setNames_85 : decode cX8_setNames 85 = .ok (.getfield 190, 3) := by decide +kernel
theorem dX8_setNames_88 : decode cX8_setNames 88 = .ok (.iconst 3, 1) := by decide +kernel
theorem dX8_setNames_89 : decode cX8_setNames 89 = .ok (.aload_n 2, 1) := by decide +kernel
theorem dX8_setNames_90 : decode cX8_setNames 90 = .ok (.getfield 117, 3) := by decide +kernel
theorem dX8_setNames_93 : decode cX8_setNames 93 = .ok (.i2l, 1) := by decide +kernel
theorem dX8_setNames_94 : decode cX8_setNames 94 = .ok (.lastore, 1) := by decide +kernel
theorem dX8_setNames_95 : decode cX8_setNames 95 = .ok (.aload_n 1, 1) := by decide +kernel
theorem dX8_setNames_96 : decode cX8_setNames 96 = .ok (.getfield 190, 3) := by decide +kernel
theorem dX8_setNames_99 : decode cX8_setNames 99 = .ok (.iconst 4, 1) := by decide +kernel
theorem dX8_setNames_100 : decode cX8_setNames 100 = .ok (.iconst 0, 1) := by decide +kernel
theorem dX8_setNames_101 : decode cX8_setNames 101 = .ok (.aload_n 2, 1) := by decide +kernel
theorem dX8_setNames_102 : decode cX8_setNames 102 = .ok (.getfield 100, 3) := by decide +kernel
theorem dX8_setNames_105 : decode cX8_setNames 105 = .ok (.iload_n 3, 1) := by decide +kernel
theorem dX8_setNames_106 : decode cX8_setNames 106 = .ok (.isub, 1) := by decide +kernel
theorem dX8_setNames_107 : decode cX8_setNames 107 = .ok (.invokestatic 152, 3) := by decide +kernel
theorem dX8_setNames_110 : decode cX8_setNames 110 = .ok (.i2l, 1) := by decide +kernel
theorem dX8_setNames_111 : decode cX8_setNames 111 = .ok (.lastore, 1) := by decide +kernel
theorem dX8_setNames_112 : decode cX8_setNames 112 = .ok (.aload_n 1, 1) := by decide +kernel
theorem dX8_setNames_113 : decode cX8_setNames 113 = .ok (.getfield 190, 3) := by decide +kernel
theorem dX8_setNames_116 : decode cX8_setNames 116 = .ok (.iconst 5, 1) := by decide +kernel
theorem dX8_setNames_117 : decode cX8_setNames 117 = .ok (.iload 4, 2) := by decide +kernel
theorem dX8_setNames_119 : decode cX8_setNames 119 = .ok (.aload_n 2, 1) := by decide +kernel
theorem dX8_setNames_120 : decode cX8_setNames 120 = .ok (.getfield 136, 3) := by decide +kernel
theorem dX8_setNames_123 : decode cX8_setNames 123 = .ok (.isub, 1) := by decide +kernel
theorem dX8_setNames_124 : decode cX8_setNames 124 = .ok (.i2l, 1) := by decide +kernel
theorem dX8_setNames_125 : decode cX8_setNames 125 = .ok (.lastore, 1) := by decide +kernel
theorem dX8_setNames_126 : decode cX8_setNames 126 = .ok (.aload_n 1, 1) := by decide +kernel
theorem dX8_setNames_127 : decode cX8_setNames 127 = .ok (.getfield 190, 3) := by decide +kernel
theorem dX8_setNames_130 : decode cX8_setNames 130 = .ok (.bipush 6, 2) := by decide +kernel
theorem dX8_setNames_132 : decode cX8_setNames 132 = .ok (.aload_n 0, 1) := by decide +kernel
theorem dX8_setNames_133 : decode cX8_setNames 133 = .ok (.getfield 32, 3) := by decide +kernel
theorem dX8_setNames_136 : decode cX8_setNames 136 = .ok (.i2l, 1) := by decide +kernel
theorem dX8_setNames_137 : decode cX8_setNames 137 = .ok (.lastore, 1) := by decide +kernel
theorem dX8_setNames_138 : decode cX8_setNames 138 = .ok (.return_, 1) := by decide +kernel
theorem dX8_inAll_0 : decode cX8_inAll 0 = .ok (.iconst 0, 1) := by decide +kernel
theorem dX8_inAll_1 : decode cX8_inAll 1 = .ok (.istore_n 3, 1) := by decide +kernel
theorem dX8_inAll_2 : decode cX8_inAll 2 = .ok (.iconst 0, 1) := by decide +kernel
theorem dX8_inAll_3 : decode cX8_inAll 3 = .ok (.istore 4, 2) := by decide +kernel
theorem dX8_inAll_5 : decode cX8_inAll 5 = .ok (.iload 4, 2) := by decide +kernel
theorem dX8_inAll_7 : decode cX8_inAll 7 = .ok (.iload_n 2, 1) := by decide +kernel
theorem dX8_inAll_8 : decode cX8_inAll 8 = .ok (.if_icmp .ge 102, 3) := by decide +kernel
theorem dX8_inAll_11 : decode cX8_inAll 11 = .ok (.aload_n 0, 1) := by decide +kernel
theorem dX8_inAll_12 : decode cX8_inAll 12 = .ok (.getfield 11, 3) := by decide +kernel
theorem dX8_inAll_15 : decode cX8_inAll 15 = .ok (.iload 4, 2) := by decide +kernel
theorem dX8_inAll_17 : decode cX8_inAll 17 = .ok (.aaload, 1) := by decide +kernel
theorem dX8_inAll_18 : decode cX8_inAll 18 = .ok (.astore 5, 2) := by decide +kernel
theorem dX8_inAll_20 : decode cX8_inAll 20 = .ok (.iload_n 1, 1) := by decide +kernel
theorem dX8_inAll_21 : decode cX8_inAll 21 = .ok (.tableswitch 75 0 3 #[31, 42, 53, 64], 31) := by decide +kernel
theorem dX8_inAll_52 : decode cX8_inAll 52 = .ok (.iload_n 3, 1) := by decide +kernel
theorem dX8_inAll_53 : decode cX8_inAll 53 = .ok (.aload 5, 2) := by decide +kernel
theorem dX8_inAll_55 : decode cX8_inAll 55 = .ok (.getfield 123, 3) := by decide +kernel
theorem dX8_inAll_58 : decode cX8_inAll 58 = .ok (.iadd, 1) := by decide +kernel
