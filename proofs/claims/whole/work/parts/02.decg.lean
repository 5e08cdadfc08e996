theorem dX10_winner_24 : decode cX10_winner 24 = .ok (.ireturn, 1) := by decide +kernel
theorem dX10_winner_25 : decode cX10_winner 25 = .ok (.aload_n 0, 1) := by decide +kernel
theorem dX10_winner_26 : decode cX10_winner 26 = .ok (.iconst 1, 1) := by decide +kernel
theorem dX10_winner_27 : decode cX10_winner 27 = .ok (.iconst 0, 1) := by decide +kernel
theorem dX10_winner_28 : decode cX10_winner 28 = .ok (.invokevirtual 387, 3) := by decide +kernel
theorem dX10_winner_31 : decode cX10_winner 31 = .ok (.aload_n 0, 1) := by decide +kernel
theorem dX10_winner_32 : decode cX10_winner 32 = .ok (.invokevirtual 413, 3) := by decide +kernel
theorem dX10_winner_35 : decode cX10_winner 35 = .ok (.istore_n 2, 1) := by decide +kernel
theorem dX10_winner_36 : decode cX10_winner 36 = .ok (.iload_n 1, 1) := by decide +kernel
theorem dX10_winner_37 : decode cX10_winner 37 = .ok (.ifCond .ne 7, 3) := by decide +kernel
theorem dX10_winner_40 : decode cX10_winner 40 = .ok (.iload_n 2, 1) := by decide +kernel
theorem dX10_winner_41 : decode cX10_winner 41 = .ok (.goto 16, 3) := by decide +kernel
theorem dX10_winner_44 : decode cX10_winner 44 = .ok (.aload_n 0, 1) := by decide +kernel
theorem dX10_winner_45 : decode cX10_winner 45 = .ok (.getfield 66, 3) := by decide +kernel
theorem dX10_winner_48 : decode cX10_winner 48 = .ok (.iconst 1, 1) := by decide +kernel
theorem dX10_winner_49 : decode cX10_winner 49 = .ok (.iaload, 1) := by decide +kernel
theorem dX10_winner_50 : decode cX10_winner 50 = .ok (.aload_n 0, 1) := by decide +kernel
theorem dX10_winner_51 : decode cX10_winner 51 = .ok (.getfield 66, 3) := by decide +kernel
theorem dX10_winner_54 : decode cX10_winner 54 = .ok (.iconst 0, 1) := by decide +kernel
theorem dX10_winner_55 : decode cX10_winner 55 = .ok (.iaload, 1) := by decide +kernel
theorem dX10_winner_56 : decode cX10_winner 56 = .ok (.isub, 1) := by decide +kernel
theorem dX10_winner_57 : decode cX10_winner 57 = .ok (.ireturn, 1) := by decide +kernel
theorem dX10_needs_0 : decode cX10_needs 0 = .ok (.aload_n 0, 1) := by decide +kernel
theorem dX10_needs_1 : decode cX10_needs 1 = .ok (.iconst 0, 1) := by decide +kernel
theorem dX10_needs_2 : decode cX10_needs 2 = .ok (.putfield 145, 3) := by decide +kernel
theorem dX10_needs_5 : decode cX10_needs 5 = .ok (.aload_n 0, 1) := by decide +kernel
theorem dX10_needs_6 : decode cX10_needs 6 = .ok (.iload_n 1, 1) := by decide +kernel
theorem dX10_needs_7 : decode cX10_needs 7 = .ok (.invokevirtual 394, 3) := by decide +kernel
theorem dX10_needs_10 : decode cX10_needs 10 = .ok (.ifCond .ne 5, 3) := by decide +kernel
theorem dX10_needs_13 : decode cX10_needs 13 = .ok (.iconst (-1), 1) := by decide +kernel
theorem dX10_needs_14 : decode cX10_needs 14 = .ok (.ireturn, 1) := by decide +kernel
theorem dX10_needs_15 : decode cX10_needs 15 = .ok (.iconst 0, 1) := by decide +kernel
theorem dX10_needs_16 : decode cX10_needs 16 = .ok (.istore_n 2, 1) := by decide +kernel
theorem dX10_needs_17 : decode cX10_needs 17 = .ok (.iload_n 2, 1) := by decide +kernel
theorem dX10_needs_18 : decode cX10_needs 18 = .ok (.sipush 999, 3) := by decide +kernel
theorem dX10_needs_21 : decode cX10_needs 21 = .ok (.if_icmp .gt 37, 3) := by decide +kernel
theorem dX10_needs_24 : decode cX10_needs 24 = .ok (.aload_n 0, 1) := by decide +kernel
theorem dX10_needs_25 : decode cX10_needs 25 = .ok (.iconst 1, 1) := by decide +kernel
theorem dX10_needs_26 : decode cX10_needs 26 = .ok (.iconst 0, 1) := by decide +kernel
theorem dX10_needs_27 : decode cX10_needs 27 = .ok (.invokevirtual 387, 3) := by decide +kernel
theorem dX10_needs_30 : decode cX10_needs 30 = .ok (.aload_n 0, 1) := by decide +kernel
theorem dX10_needs_31 : decode cX10_needs 31 = .ok (.getfield 87, 3) := by decide +kernel
theorem dX10_needs_34 : decode cX10_needs 34 = .ok (.iconst 5, 1) := by decide +kernel
theorem dX10_needs_35 : decode cX10_needs 35 = .ok (.iload_n 1, 1) := by decide +kernel
theorem dX10_needs_36 : decode cX10_needs 36 = .ok (.iadd, 1) := by decide +kernel
theorem dX10_needs_37 : decode cX10_needs 37 = .ok (.dup2, 1) := by decide +kernel
theorem dX10_needs_38 : decode cX10_needs 38 = .ok (.iaload, 1) := by decide +kernel
theorem dX10_needs_39 : decode cX10_needs 39 = .ok (.iload_n 2, 1) := by decide +kernel
theorem dX10_needs_40 : decode cX10_needs 40 = .ok (.iadd, 1) := by decide +kernel
theorem dX10_needs_41 : decode cX10_needs 41 = .ok (.iastore, 1) := by decide +kernel
theorem dX10_needs_42 : decode cX10_needs 42 = .ok (.aload_n 0, 1) := by decide +kernel
theorem dX10_needs_43 : decode cX10_needs 43 = .ok (.invokevirtual 413, 3) := by decide +kernel
theorem dX10_needs_46 : decode cX10_needs 46 = .ok (.iload_n 1, 1) := by decide +kernel
theorem dX10_needs_47 : decode cX10_needs 47 = .ok (.if_icmp .ne 5, 3) := by decide +kernel
theorem dX10_needs_50 : decode cX10_needs 50 = .ok (.iload_n 2, 1) := by decide +kernel
theorem dX10_needs_51 : decode cX10_needs 51 = .ok (.ireturn, 1) := by decide +kernel
theorem dX10_needs_52 : decode cX10_needs 52 = .ok (.iinc 2 1, 3) := by decide +kernel
theorem dX10_needs_55 : decode cX10_needs 55 = .ok (.goto (-38), 3) := by decide +kernel
theorem dX10_needs_58 : decode cX10_needs 58 = .ok (.bipush (-2), 2) := by decide +kernel
theorem dX10_needs_60 : decode cX10_needs 60 = .ok (.ireturn, 1) := by decide +kernel
theorem dX10_rank_0 : decode cX10_rank 0 = .ok (.aload_n 0, 1) := by decide +kernel
theorem dX10_rank_1 : decode cX10_rank 1 = .ok (.iconst 0, 1) := by decide +kernel
theorem dX10_rank_2 : decode cX10_rank 2 = .ok (.putfield 145, 3) := by decide +kernel
theorem dX10_rank_5 : decode cX10_rank 5 = .ok (.aload_n 0, 1) := by decide +kernel
theorem dX10_rank_6 : decode cX10_rank 6 = .ok (.iload_n 1, 1) := by decide +kernel
theorem dX10_rank_7 : decode cX10_rank 7 = .ok (.invokevirtual 394, 3) := by decide +kernel
theorem dX10_rank_10 : decode cX10_rank 10 = .ok (.ifCond .ne 5, 3) := by decide +kernel
theorem dX10_rank_13 : decode cX10_rank 13 = .ok (.iconst (-1), 1) := by decide +kernel
theorem dX10_rank_14 : decode cX10_rank 14 = .ok (.ireturn, 1) := by decide +kernel
theorem dX10_rank_15 : decode cX10_rank 15 = .ok (.iconst 0, 1) := by decide +kernel
theorem dX10_rank_16 : decode cX10_rank 16 = .ok (.istore_n 2, 1) := by decide +kernel
theorem dX10_rank_17 : decode cX10_rank 17 = .ok (.iconst 0, 1) := by decide +kernel
theorem dX10_rank_18 : decode cX10_rank 18 = .ok (.istore_n 3, 1) := by decide +kernel
theorem dX10_rank_19 : decode cX10_rank 19 = .ok (.iload_n 3, 1) := by decide +kernel
theorem dX10_rank_20 : decode cX10_rank 20 = .ok (.aload_n 0, 1) := by decide +kernel
theorem dX10_rank_21 : decode cX10_rank 21 = .ok (.getfield 13, 3) := by decide +kernel
theorem dX10_rank_24 : decode cX10_rank 24 = .ok (.iconst 0, 1) := by decide +kernel
theorem dX10_rank_25 : decode cX10_rank 25 = .ok (.iaload, 1) := by decide +kernel
theorem dX10_rank_26 : decode cX10_rank 26 = .ok (.if_icmp .ge 52, 3) := by decide +kernel
theorem dX10_rank_29 : decode cX10_rank 29 = .ok (.iload_n 2, 1) := by decide +kernel
theorem dX10_rank_30 : decode cX10_rank 30 = .ok (.aload_n 0, 1) := by decide +kernel
theorem dX10_rank_31 : decode cX10_rank 31 = .ok (.getfield 87, 3) := by decide +kernel
theorem dX10_rank_34 : decode cX10_rank 34 = .ok (.iload_n 3, 1) := by decide +kernel
theorem dX10_rank_35 : decode cX10_rank 35 = .ok (.iaload, 1) := by decide +kernel
theorem dX10_rank_36 : decode cX10_rank 36 = .ok (.aload_n 0, 1) := by decide +kernel
theorem dX10_rank_37 : decode cX10_rank 37 = .ok (.getfield 87, 3) := by decide +kernel
theorem dX10_rank_40 : decode cX10_rank 40 = .ok (.iload_n 1, 1) := by decide +kernel
theorem dX10_rank_41 : decode cX10_rank 41 = .ok (.iaload, 1) := by decide +kernel
theorem dX10_rank_42 : decode cX10_rank 42 = .ok (.if_icmp .gt 23, 3) := by decide +kernel
theorem dX10_rank_45 : decode cX10_rank 45 = .ok (.aload_n 0, 1) := by decide +kernel
theorem dX10_rank_46 : decode cX10_rank 46 = .ok (.getfield 87, 3) := by decide +kernel
theorem dX10_rank_49 : decode cX10_rank 49 = .ok (.iload_n 3, 1) := by decide +kernel
theorem dX10_rank_50 : decode cX10_rank 50 = .ok (.iaload, 1) := by decide +kernel
theorem dX10_rank_51 : decode cX10_rank 51 = .ok (.aload_n 0, 1) := by decide +kernel
theorem dX10_rank_52 : decode cX10_rank 52 = .ok (.getfield 87, 3) := by decide +kernel
theorem dX10_rank_55 : decode cX10_rank 55 = .ok (.iload_n 1, 1) := by decide +kernel
theorem dX10_rank_56 : decode cX10_rank 56 = .ok (.iaload, 1) := by decide +kernel
theorem dX10_rank_57 : decode cX10_rank 57 = .ok (.if_icmp .ne 12, 3) := by decide +kernel
theorem dX10_rank_60 : decode cX10_rank 60 = .ok (.iload_n 3, 1) := by decide +kernel
theorem dX10_rank_61 : decode cX10_rank 61 = .ok (.iload_n 1, 1) := by decide +kernel
theorem dX10_rank_62 : decode cX10_rank 62 = .ok (.if_icmp .ge 7, 3) := by decide +kernel
theorem dX10_rank_65 : decode cX10_rank 65 = .ok (.iconst 1, 1) := by decide +kernel
theorem dX10_rank_66 : decode cX10_rank 66 = .ok (.goto 4, 3) := by decide +kernel
theorem dX10_rank_69 : decode cX10_rank 69 = .ok (.iconst 0, 1) := by decide +kernel
theorem dX10_rank_70 : decode cX10_rank 70 = .ok (.iadd, 1) := by decide +kernel
theorem dX10_rank_71 : decode cX10_rank 71 = .ok (.istore_n 2, 1) := by decide +kernel
theorem dX10_rank_72 : decode cX10_rank 72 = .ok (.iinc 3 1, 3) := by decide +kernel
theorem dX10_rank_75 : decode cX10_rank 75 = .ok (.goto (-56), 3) := by decide +kernel
theorem dX10_rank_78 : decode cX10_rank 78 = .ok (.iload_n 2, 1) := by decide +kernel
theorem dX10_rank_79 : decode cX10_rank 79 = .ok (.ireturn, 1) := by decide +kernel
theorem dX10_falls_0 : decode cX10_falls 0 = .ok (.aload_n 0, 1) := by decide +kernel
theorem dX10_falls_1 : decode cX10_falls 1 = .ok (.iconst 0, 1) := by decide +kernel
theorem dX10_falls_2 : decode cX10_falls 2 = .ok (.putfield 145, 3) := by decide +kernel
theorem dX10_falls_5 : decode cX10_falls 5 = .ok (.aload_n 0, 1) := by decide +kernel
theorem dX10_falls_6 : decode cX10_falls 6 = .ok (.iload_n 1, 1) := by decide +kernel
theorem dX10_falls_7 : decode cX10_falls 7 = .ok (.invokevirtual 394, 3) := by decide +kernel
theorem dX10_falls_10 : decode cX10_falls 10 = .ok (.ifCond .eq 13, 3) := by decide +kernel
theorem dX10_falls_13 : decode cX10_falls 13 = .ok (.iload_n 2, 1) := by decide +kernel
theorem dX10_falls_14 : decode cX10_falls 14 = .ok (.ifCond .lt 9, 3) := by decide +kernel
theorem dX10_falls_17 : decode cX10_falls 17 = .ok (.iload_n 2, 1) := by decide +kernel
theorem dX10_falls_18 : decode cX10_falls 18 = .ok (.bipush 99, 2) := by decide +kernel
theorem dX10_falls_20 : decode cX10_falls 20 = .ok (.if_icmp .le 5, 3) := by decide +kernel
theorem dX10_falls_23 : decode cX10_falls 23 = .ok (.iconst (-1), 1) := by decide +kernel
theorem dX10_falls_24 : decode cX10_falls 24 = .ok (.ireturn, 1) := by decide +kernel
theorem dX10_falls_25 : decode cX10_falls 25 = .ok (.aload_n 0, 1) := by decide +kernel
theorem dX10_falls_26 : decode cX10_falls 26 = .ok (.iload_n 2, 1) := by decide +kernel
theorem dX10_falls_27 : decode cX10_falls 27 = .ok (.invokevirtual 407, 3) := by decide +kernel
theorem dX10_falls_30 : decode cX10_falls 30 = .ok (.aload_n 0, 1) := by decide +kernel
theorem dX10_falls_31 : decode cX10_falls 31 = .ok (.getfield 84, 3) := by decide +kernel
theorem dX10_falls_34 : decode cX10_falls 34 = .ok (.iconst 5, 1) := by decide +kernel
theorem dX10_falls_35 : decode cX10_falls 35 = .ok (.iload_n 1, 1) := by decide +kernel
theorem dX10_falls_36 : decode cX10_falls 36 = .ok (.iadd, 1) := by decide +kernel
theorem dX10_falls_37 : decode cX10_falls 37 = .ok (.iaload, 1) := by decide +kernel
theorem dX10_falls_38 : decode cX10_falls 38 = .ok (.aload_n 0, 1) := by decide +kernel
theorem dX10_falls_39 : decode cX10_falls 39 = .ok (.getfield 84, 3) := by decide +kernel
theorem dX10_falls_42 : decode cX10_falls 42 = .ok (.iload_n 1, 1) := by decide +kernel
theorem dX10_falls_43 : decode cX10_falls 43 = .ok (.iaload, 1) := by decide +kernel
theorem dX10_falls_44 : decode cX10_falls 44 = .ok (.isub, 1) := by decide +kernel
theorem dX10_falls_45 : decode cX10_falls 45 = .ok (.ireturn, 1) := by decide +kernel
theorem dX10_earns_0 : decode cX10_earns 0 = .ok (.aload_n 0, 1) := by decide +kernel
theorem dX10_earns_1 : decode cX10_earns 1 = .ok (.iconst 0, 1) := by decide +kernel
theorem dX10_earns_2 : decode cX10_earns 2 = .ok (.putfield 145, 3) := by decide +kernel
theorem dX10_earns_5 : decode cX10_earns 5 = .ok (.aload_n 0, 1) := by decide +kernel
theorem dX10_earns_6 : decode cX10_earns 6 = .ok (.iload_n 1, 1) := by decide +kernel
theorem dX10_earns_7 : decode cX10_earns 7 = .ok (.invokevirtual 394, 3) := by decide +kernel
theorem dX10_earns_10 : decode cX10_earns 10 = .ok (.ifCond .eq 22, 3) := by decide +kernel
theorem dX10_earns_13 : decode cX10_earns 13 = .ok (.iload_n 2, 1) := by decide +kernel
theorem dX10_earns_14 : decode cX10_earns 14 = .ok (.ifCond .lt 18, 3) := by decide +kernel
theorem dX10_earns_17 : decode cX10_earns 17 = .ok (.iload_n 2, 1) := by decide +kernel
theorem dX10_earns_18 : decode cX10_earns 18 = .ok (.bipush 60, 2) := by decide +kernel
theorem dX10_earns_20 : decode cX10_earns 20 = .ok (.if_icmp .gt 12, 3) := by decide +kernel
theorem dX10_earns_23 : decode cX10_earns 23 = .ok (.iload_n 3, 1) := by decide +kernel
theorem dX10_earns_24 : decode cX10_earns 24 = .ok (.ifCond .lt 8, 3) := by decide +kernel
theorem dX10_earns_27 : decode cX10_earns 27 = .ok (.iload_n 3, 1) := by decide +kernel
theorem dX10_earns_28 : decode cX10_earns 28 = .ok (.iconst 1, 1) := by decide +kernel
theorem dX10_earns_29 : decode cX10_earns 29 = .ok (.if_icmp .le 5, 3) := by decide +kernel
theorem dX10_earns_32 : decode cX10_earns 32 = .ok (.iconst (-1), 1) := by decide +kernel
theorem dX10_earns_33 : decode cX10_earns 33 = .ok (.ireturn, 1) := by decide +kernel
theorem dX10_earns_34 : decode cX10_earns 34 = .ok (.aload_n 0, 1) := by decide +kernel
theorem dX10_earns_35 : decode cX10_earns 35 = .ok (.iload_n 2, 1) := by decide +kernel
theorem dX10_earns_36 : decode cX10_earns 36 = .ok (.invokevirtual 407, 3) := by decide +kernel
theorem dX10_earns_39 : decode cX10_earns 39 = .ok (.iconst 5, 1) := by decide +kernel
theorem dX10_earns_40 : decode cX10_earns 40 = .ok (.iload_n 1, 1) := by decide +kernel
theorem dX10_earns_41 : decode cX10_earns 41 = .ok (.iadd, 1) := by decide +kernel
theorem dX10_earns_42 : decode cX10_earns 42 = .ok (.istore 4, 2) := by decide +kernel
theorem dX10_earns_44 : decode cX10_earns 44 = .ok (.iload_n 3, 1) := by decide +kernel
theorem dX10_earns_45 : decode cX10_earns 45 = .ok (.ifCond .ne 20, 3) := by decide +kernel
theorem dX10_earns_48 : decode cX10_earns 48 = .ok (.aload_n 0, 1) := by decide +kernel
theorem dX10_earns_49 : decode cX10_earns 49 = .ok (.getfield 102, 3) := by decide +kernel
theorem dX10_earns_52 : decode cX10_earns 52 = .ok (.iload 4, 2) := by decide +kernel
theorem dX10_earns_54 : decode cX10_earns 54 = .ok (.iaload, 1) := by decide +kernel
theorem dX10_earns_55 : decode cX10_earns 55 = .ok (.aload_n 0, 1) := by decide +kernel
theorem dX10_earns_56 : decode cX10_earns 56 = .ok (.getfield 102, 3) := by decide +kernel
theorem dX10_earns_59 : decode cX10_earns 59 = .ok (.iload_n 1, 1) := by decide +kernel
theorem dX10_earns_60 : decode cX10_earns 60 = .ok (.iaload, 1) := by decide +kernel
theorem dX10_earns_61 : decode cX10_earns 61 = .ok (.isub, 1) := by decide +kernel
theorem dX10_earns_62 : decode cX10_earns 62 = .ok (.goto 17, 3) := by decide +kernel
theorem dX10_earns_65 : decode cX10_earns 65 = .ok (.aload_n 0, 1) := by decide +kernel
theorem dX10_earns_66 : decode cX10_earns 66 = .ok (.getfield 105, 3) := by decide +kernel
theorem dX10_earns_69 : decode cX10_earns 69 = .ok (.iload 4, 2) := by decide +kernel
theorem dX10_earns_71 : decode cX10_earns 71 = .ok (.iaload, 1) := by decide +kernel
theorem dX10_earns_72 : decode cX10_earns 72 = .ok (.aload_n 0, 1) := by decide +kernel
theorem dX10_earns_73 : decode cX10_earns 73 = .ok (.getfield 105, 3) := by decide +kernel
theorem dX10_earns_76 : decode cX10_earns 76 = .ok (.iload_n 1, 1) := by decide +kernel
theorem dX10_earns_77 : decode cX10_earns 77 = .ok (.iaload, 1) := by decide +kernel
theorem dX10_earns_78 : decode cX10_earns 78 = .ok (.isub, 1) := by decide +kernel
theorem dX10_earns_79 : decode cX10_earns 79 = .ok (.ireturn, 1) := by decide +kernel
theorem dX10_layFurther_0 : decode cX10_layFurther 0 = .ok (.iconst 0, 1) := by decide +kernel
theorem dX10_layFurther_1 : decode cX10_layFurther 1 = .ok (.istore_n 3, 1) := by decide +kernel
theorem dX10_layFurther_2 : decode cX10_layFurther 2 = .ok (.iload_n 3, 1) := by decide +kernel
theorem dX10_layFurther_3 : decode cX10_layFurther 3 = .ok (.bipush 25, 2) := by decide +kernel
theorem dX10_layFurther_5 : decode cX10_layFurther 5 = .ok (.if_icmp .ge 111, 3) := by decide +kernel
theorem dX10_layFurther_8 : decode cX10_layFurther 8 = .ok (.aload_n 0, 1) := by decide +kernel
theorem dX10_layFurther_9 : decode cX10_layFurther 9 = .ok (.iconst 1, 1) := by decide +kernel
theorem dX10_layFurther_10 : decode cX10_layFurther 10 = .ok (.iconst 0, 1) := by decide +kernel
theorem dX10_layFurther_11 : decode cX10_layFurther 11 = .ok (.invokevirtual 387, 3) := by decide +kernel
theorem dX10_layFurther_14 : decode cX10_layFurther 14 = .ok (.aload_n 0, 1) := by decide +kernel
theorem dX10_layFurther_15 : decode cX10_layFurther 15 = .ok (.getfield 99, 3) := by decide +kernel
theorem dX10_layFurther_18 : decode cX10_layFurther 18 = .ok (.iconst 5, 1) := by decide +kernel
theorem dX10_layFurther_19 : decode cX10_layFurther 19 = .ok (.iload_n 1, 1) := by decide +kernel
theorem dX10_layFurther_20 : decode cX10_layFurther 20 = .ok (.iadd, 1) := by decide +kernel
theorem dX10_layFurther_21 : decode cX10_layFurther 21 = .ok (.dup2, 1) := by decide +kernel
theorem dX10_layFurther_22 : decode cX10_layFurther 22 = .ok (.iaload, 1) := by decide +kernel
theorem dX10_layFurther_23 : decode cX10_layFurther 23 = .ok (.bipush 10, 2) := by decide +kernel
theorem dX10_layFurther_25 : decode cX10_layFurther 25 = .ok (.iload_n 3, 1) := by decide +kernel
theorem dX10_layFurther_26 : decode cX10_layFurther 26 = .ok (.iconst 5, 1) := by decide +kernel
theorem dX10_layFurther_27 : decode cX10_layFurther 27 = .ok (.idiv, 1) := by decide +kernel
theorem dX10_layFurther_28 : decode cX10_layFurther 28 = .ok (.imul, 1) := by decide +kernel
theorem dX10_layFurther_29 : decode cX10_layFurther 29 = .ok (.iadd, 1) := by decide +kernel
theorem dX10_layFurther_30 : decode cX10_layFurther 30 = .ok (.iastore, 1) := by decide +kernel
theorem dX10_layFurther_31 : decode cX10_layFurther 31 = .ok (.aload_n 0, 1) := by decide +kernel
theorem dX10_layFurther_32 : decode cX10_layFurther 32 = .ok (.getfield 99, 3) := by decide +kernel
theorem dX10_layFurther_35 : decode cX10_layFurther 35 = .ok (.iconst 5, 1) := by decide +kernel
theorem dX10_layFurther_36 : decode cX10_layFurther 36 = .ok (.iload_n 2, 1) := by decide +kernel
theorem dX10_layFurther_37 : decode cX10_layFurther 37 = .ok (.iadd, 1) := by decide +kernel
theorem dX10_layFurther_38 : decode cX10_layFurther 38 = .ok (.dup2, 1) := by decide +kernel
theorem dX10_layFurther_39 : decode cX10_layFurther 39 = .ok (.iaload, 1) := by decide +kernel
theorem dX10_layFurther_40 : decode cX10_layFurther 40 = .ok (.bipush 10, 2) := by decide +kernel
theorem dX10_layFurther_42 : decode cX10_layFurther 42 = .ok (.iload_n 3, 1) := by decide +kernel
theorem dX10_layFurther_43 : decode cX10_layFurther 43 = .ok (.iconst 5, 1) := by decide +kernel
theorem dX10_layFurther_44 : decode cX10_layFurther 44 = .ok (.irem, 1) := by decide +kernel
theorem dX10_layFurther_45 : decode cX10_layFurther 45 = .ok (.imul, 1) := by decide +kernel
theorem dX10_layFurther_46 : decode cX10_layFurther 46 = .ok (.iadd, 1) := by decide +kernel
theorem dX10_layFurther_47 : decode cX10_layFurther 47 = .ok (.iastore, 1) := by decide +kernel
theorem dX10_layFurther_48 : decode cX10_layFurther 48 = .ok (.aload_n 0, 1) := by decide +kernel
theorem dX10_layFurther_49 : decode cX10_layFurther 49 = .ok (.invokevirtual 413, 3) := by decide +kernel
theorem dX10_layFurther_52 : decode cX10_layFurther 52 = .ok (.istore 4, 2) := by decide +kernel
theorem dX10_layFurther_54 : decode cX10_layFurther 54 = .ok (.aload_n 0, 1) := by decide +kernel
theorem dX10_layFurther_55 : decode cX10_layFurther 55 = .ok (.getfield 114, 3) := by decide +kernel
theorem dX10_layFurther_58 : decode cX10_layFurther 58 = .ok (.iload_n 3, 1) := by decide +kernel
theorem dX10_layFurther_59 : decode cX10_layFurther 59 = .ok (.iload 4, 2) := by decide +kernel
theorem dX10_layFurther_61 : decode cX10_layFurther 61 = .ok (.iload_n 1, 1) := by decide +kernel
theorem dX10_layFurther_62 : decode cX10_layFurther 62 = .ok (.if_icmp .ne 12, 3) := by decide +kernel
theorem dX10_layFurther_65 : decode cX10_layFurther 65 = .ok (.aload_n 0, 1) := by decide +kernel
theorem dX10_layFurther_66 : decode cX10_layFurther 66 = .ok (.getfield 13, 3) := by decide +kernel
theorem dX10_layFurther_69 : decode cX10_layFurther 69 = .ok (.iconst 3, 1) := by decide +kernel
theorem dX10_layFurther_70 : decode cX10_layFurther 70 = .ok (.iaload, 1) := by decide +kernel
theorem dX10_layFurther_71 : decode cX10_layFurther 71 = .ok (.goto 4, 3) := by decide +kernel
theorem dX10_layFurther_74 : decode cX10_layFurther 74 = .ok (.iconst 0, 1) := by decide +kernel
theorem dX10_layFurther_75 : decode cX10_layFurther 75 = .ok (.iconst 3, 1) := by decide +kernel
theorem dX10_layFurther_76 : decode cX10_layFurther 76 = .ok (.iload_n 3, 1) := by decide +kernel
theorem dX10_layFurther_77 : decode cX10_layFurther 77 = .ok (.iconst 5, 1) := by decide +kernel
theorem dX10_layFurther_78 : decode cX10_layFurther 78 = .ok (.idiv, 1) := by decide +kernel
theorem dX10_layFurther_79 : decode cX10_layFurther 79 = .ok (.imul, 1) := by decide +kernel
theorem dX10_layFurther_80 : decode cX10_layFurther 80 = .ok (.isub, 1) := by decide +kernel
theorem dX10_layFurther_81 : decode cX10_layFurther 81 = .ok (.iastore, 1) := by decide +kernel
theorem dX10_layFurther_82 : decode cX10_layFurther 82 = .ok (.aload_n 0, 1) := by decide +kernel
theorem dX10_layFurther_83 : decode cX10_layFurther 83 = .ok (.getfield 117, 3) := by decide +kernel
theorem dX10_layFurther_86 : decode cX10_layFurther 86 = .ok (.iload_n 3, 1) := by decide +kernel
theorem dX10_layFurther_87 : decode cX10_layFurther 87 = .ok (.iload 4, 2) := by decide +kernel
theorem dX10_layFurther_89 : decode cX10_layFurther 89 = .ok (.iload_n 2, 1) := by decide +kernel
theorem dX10_layFurther_90 : decode cX10_layFurther 90 = .ok (.if_icmp .ne 12, 3) := by decide +kernel
theorem dX10_layFurther_93 : decode cX10_layFurther 93 = .ok (.aload_n 0, 1) := by decide +kernel
theorem dX10_layFurther_94 : decode cX10_layFurther 94 = .ok (.getfield 13, 3) := by decide +kernel
theorem dX10_layFurther_97 : decode cX10_layFurther 97 = .ok (.iconst 3, 1) := by decide +kernel
theorem dX10_layFurther_98 : decode cX10_layFurther 98 = .ok (.iaload, 1) := by decide +kernel
theorem dX10_layFurther_99 : decode cX10_layFurther 99 = .ok (.goto 4, 3) := by decide +kernel
theorem dX10_layFurther_102 : decode cX10_layFurther 102 = .ok (.iconst 0, 1) := by decide +kernel
theorem dX10_layFurther_103 : decode cX10_layFurther 103 = .ok (.iconst 3, 1) := by decide +kernel
theorem dX10_layFurther_104 : decode cX10_layFurther 104 = .ok (.iload_n 3, 1) := by decide +kernel
theorem dX10_layFurther_105 : decode cX10_layFurther 105 = .ok (.iconst 5, 1) := by decide +kernel
theorem dX10_layFurther_106 : decode cX10_layFurther 106 = .ok (.irem, 1) := by decide +kernel
theorem dX10_layFurther_107 : decode cX10_layFurther 107 = .ok (.imul, 1) := by decide +kernel
theorem dX10_layFurther_108 : decode cX10_layFurther 108 = .ok (.isub, 1) := by decide +kernel
theorem dX10_layFurther_109 : decode cX10_layFurther 109 = .ok (.iastore, 1) := by decide +kernel
theorem dX10_layFurther_110 : decode cX10_layFurther 110 = .ok (.iinc 3 1, 3) := by decide +kernel
theorem dX10_layFurther_113 : decode cX10_layFurther 113 = .ok (.goto (-111), 3) := by decide +kernel
theorem dX10_layFurther_116 : decode cX10_layFurther 116 = .ok (.return_, 1) := by decide +kernel
theorem dX10_isRest_0 : decode cX10_isRest 0 = .ok (.iconst 0, 1) := by decide +kernel
theorem dX10_isRest_1 : decode cX10_isRest 1 = .ok (.istore_n 2, 1) := by decide +kernel
theorem dX10_isRest_2 : decode cX10_isRest 2 = .ok (.iload_n 2, 1) := by decide +kernel
theorem dX10_isRest_3 : decode cX10_isRest 3 = .ok (.iconst 5, 1) := by decide +kernel
theorem dX10_isRest_4 : decode cX10_isRest 4 = .ok (.if_icmp .ge 53, 3) := by decide +kernel
theorem dX10_isRest_7 : decode cX10_isRest 7 = .ok (.aload_n 0, 1) := by decide +kernel
theorem dX10_isRest_8 : decode cX10_isRest 8 = .ok (.getfield 114, 3) := by decide +kernel
theorem dX10_isRest_11 : decode cX10_isRest 11 = .ok (.iconst 5, 1) := by decide +kernel
theorem dX10_isRest_12 : decode cX10_isRest 12 = .ok (.iload_n 2, 1) := by decide +kernel
theorem dX10_isRest_13 : decode cX10_isRest 13 = .ok (.imul, 1) := by decide +kernel
theorem dX10_isRest_14 : decode cX10_isRest 14 = .ok (.iload_n 1, 1) := by decide +kernel
theorem dX10_isRest_15 : decode cX10_isRest 15 = .ok (.iconst 5, 1) := by decide +kernel
theorem dX10_isRest_16 : decode cX10_isRest 16 = .ok (.irem, 1) := by decide +kernel
theorem dX10_isRest_17 : decode cX10_isRest 17 = .ok (.iadd, 1) := by decide +kernel
theorem dX10_isRest_18 : decode cX10_isRest 18 = .ok (.iaload, 1) := by decide +kernel
theorem dX10_isRest_19 : decode cX10_isRest 19 = .ok (.aload_n 0, 1) := by decide +kernel
theorem dX10_isRest_20 : decode cX10_isRest 20 = .ok (.getfield 114, 3) := by decide +kernel
theorem dX10_isRest_23 : decode cX10_isRest 23 = .ok (.iload_n 1, 1) := by decide +kernel
theorem dX10_isRest_24 : decode cX10_isRest 24 = .ok (.iaload, 1) := by decide +kernel
theorem dX10_isRest_25 : decode cX10_isRest 25 = .ok (.if_icmp .gt 24, 3) := by decide +kernel
theorem dX10_isRest_28 : decode cX10_isRest 28 = .ok (.aload_n 0, 1) := by decide +kernel
theorem dX10_isRest_29 : decode cX10_isRest 29 = .ok (.getfield 117, 3) := by decide +kernel
theorem dX10_isRest_32 : decode cX10_isRest 32 = .ok (.iload_n 1, 1) := by decide +kernel
theorem dX10_isRest_33 : decode cX10_isRest 33 = .ok (.iconst 5, 1) := by decide +kernel
theorem dX10_isRest_34 : decode cX10_isRest 34 = .ok (.idiv, 1) := by decide +kernel
theorem dX10_isRest_35 : decode cX10_isRest 35 = .ok (.iconst 5, 1) := by decide +kernel
theorem dX10_isRest_36 : decode cX10_isRest 36 = .ok (.imul, 1) := by decide +kernel
theorem dX10_isRest_37 : decode cX10_isRest 37 = .ok (.iload_n 2, 1) := by decide +kernel
theorem dX10_isRest_38 : decode cX10_isRest 38 = .ok (.iadd, 1) := by decide +kernel
theorem dX10_isRest_39 : decode cX10_isRest 39 = .ok (.iaload, 1) := by decide +kernel
theorem dX10_isRest_40 : decode cX10_isRest 40 = .ok (.aload_n 0, 1) := by decide +kernel
theorem dX10_isRest_41 : decode cX10_isRest 41 = .ok (.getfield 117, 3) := by decide +kernel
theorem dX10_isRest_44 : decode cX10_isRest 44 = .ok (.iload_n 1, 1) := by decide +kernel
theorem dX10_isRest_45 : decode cX10_isRest 45 = .ok (.iaload, 1) := by decide +kernel
theorem dX10_isRest_46 : decode cX10_isRest 46 = .ok (.if_icmp .le 5, 3) := by decide +kernel
theorem dX10_isRest_49 : decode cX10_isRest 49 = .ok (.iconst 0, 1) := by decide +kernel
theorem dX10_isRest_50 : decode cX10_isRest 50 = .ok (.ireturn, 1) := by decide +kernel
theorem dX10_isRest_51 : decode cX10_isRest 51 = .ok (.iinc 2 1, 3) := by decide +kernel
theorem dX10_isRest_54 : decode cX10_isRest 54 = .ok (.goto (-52), 3) := by decide +kernel
theorem dX10_isRest_57 : decode cX10_isRest 57 = .ok (.iconst 1, 1) := by decide +kernel
theorem dX10_isRest_58 : decode cX10_isRest 58 = .ok (.ireturn, 1) := by decide +kernel
theorem dX10_restOf_0 : decode cX10_restOf 0 = .ok (.iconst 0, 1) := by decide +kernel
theorem dX10_restOf_1 : decode cX10_restOf 1 = .ok (.istore_n 2, 1) := by decide +kernel
theorem dX10_restOf_2 : decode cX10_restOf 2 = .ok (.iconst 0, 1) := by decide +kernel
theorem dX10_restOf_3 : decode cX10_restOf 3 = .ok (.istore_n 3, 1) := by decide +kernel
theorem dX10_restOf_4 : decode cX10_restOf 4 = .ok (.iload_n 3, 1) := by decide +kernel
theorem dX10_restOf_5 : decode cX10_restOf 5 = .ok (.bipush 25, 2) := by decide +kernel
theorem dX10_restOf_7 : decode cX10_restOf 7 = .ok (.if_icmp .ge 39, 3) := by decide +kernel
theorem dX10_restOf_10 : decode cX10_restOf 10 = .ok (.aload_n 0, 1) := by decide +kernel
theorem dX10_restOf_11 : decode cX10_restOf 11 = .ok (.iload_n 3, 1) := by decide +kernel
theorem dX10_restOf_12 : decode cX10_restOf 12 = .ok (.invokevirtual 416, 3) := by decide +kernel
theorem dX10_restOf_15 : decode cX10_restOf 15 = .ok (.ifCond .ne 6, 3) := by decide +kernel
theorem dX10_restOf_18 : decode cX10_restOf 18 = .ok (.goto 22, 3) := by decide +kernel
theorem dX10_restOf_21 : decode cX10_restOf 21 = .ok (.iload_n 2, 1) := by decide +kernel
theorem dX10_restOf_22 : decode cX10_restOf 22 = .ok (.iload_n 1, 1) := by decide +kernel
theorem dX10_restOf_23 : decode cX10_restOf 23 = .ok (.if_icmp .ne 14, 3) := by decide +kernel
theorem dX10_restOf_26 : decode cX10_restOf 26 = .ok (.bipush 10, 2) := by decide +kernel
theorem dX10_restOf_28 : decode cX10_restOf 28 = .ok (.iload_n 3, 1) := by decide +kernel
theorem dX10_restOf_29 : decode cX10_restOf 29 = .ok (.iconst 5, 1) := by decide +kernel
theorem dX10_restOf_30 : decode cX10_restOf 30 = .ok (.idiv, 1) := by decide +kernel
theorem dX10_restOf_31 : decode cX10_restOf 31 = .ok (.imul, 1) := by decide +kernel
theorem dX10_restOf_32 : decode cX10_restOf 32 = .ok (.iload_n 3, 1) := by decide +kernel
theorem dX10_restOf_33 : decode cX10_restOf 33 = .ok (.iconst 5, 1) := by decide +kernel
theorem dX10_restOf_34 : decode cX10_restOf 34 = .ok (.irem, 1) := by decide +kernel
theorem dX10_restOf_35 : decode cX10_restOf 35 = .ok (.iadd, 1) := by decide +kernel
theorem dX10_restOf_36 : decode cX10_restOf 36 = .ok (.ireturn, 1) := by decide +kernel
theorem dX10_restOf_37 : decode cX10_restOf 37 = .ok (.iinc 2 1, 3) := by decide +kernel
theorem dX10_restOf_40 : decode cX10_restOf 40 = .ok (.iinc 3 1, 3) := by decide +kernel
theorem dX10_restOf_43 : decode cX10_restOf 43 = .ok (.goto (-39), 3) := by decide +kernel
theorem dX10_restOf_46 : decode cX10_restOf 46 = .ok (.iload_n 1, 1) := by decide +kernel
theorem dX10_restOf_47 : decode cX10_restOf 47 = .ok (.iconst (-1), 1) := by decide +kernel
theorem dX10_restOf_48 : decode cX10_restOf 48 = .ok (.if_icmp .ne 7, 3) := by decide +kernel
theorem dX10_restOf_51 : decode cX10_restOf 51 = .ok (.iload_n 2, 1) := by decide +kernel
theorem dX10_restOf_52 : decode cX10_restOf 52 = .ok (.goto 5, 3) := by decide +kernel
theorem dX10_restOf_55 : decode cX10_restOf 55 = .ok (.bipush (-2), 2) := by decide +kernel
theorem dX10_restOf_57 : decode cX10_restOf 57 = .ok (.ireturn, 1) := by decide +kernel
theorem dX10_areTwo_0 : decode cX10_areTwo 0 = .ok (.aload_n 0, 1) := by decide +kernel
theorem dX10_areTwo_1 : decode cX10_areTwo 1 = .ok (.iload_n 1, 1) := by decide +kernel
theorem dX10_areTwo_2 : decode cX10_areTwo 2 = .ok (.invokevirtual 394, 3) := by decide +kernel
theorem dX10_areTwo_5 : decode cX10_areTwo 5 = .ok (.ifCond .eq 20, 3) := by decide +kernel
theorem dX10_areTwo_8 : decode cX10_areTwo 8 = .ok (.aload_n 0, 1) := by decide +kernel
theorem dX10_areTwo_9 : decode cX10_areTwo 9 = .ok (.iload_n 2, 1) := by decide +kernel
theorem dX10_areTwo_10 : decode cX10_areTwo 10 = .ok (.invokevirtual 394, 3) := by decide +kernel
theorem dX10_areTwo_13 : decode cX10_areTwo 13 = .ok (.ifCond .eq 12, 3) := by decide +kernel
theorem dX10_areTwo_16 : decode cX10_areTwo 16 = .ok (.iload_n 1, 1) := by decide +kernel
theorem dX10_areTwo_17 : decode cX10_areTwo 17 = .ok (.iload_n 2, 1) := by decide +kernel
theorem dX10_areTwo_18 : decode cX10_areTwo 18 = .ok (.if_icmp .eq 7, 3) := by decide +kernel
theorem dX10_areTwo_21 : decode cX10_areTwo 21 = .ok (.iconst 1, 1) := by decide +kernel
theorem dX10_areTwo_22 : decode cX10_areTwo 22 = .ok (.goto 4, 3) := by decide +kernel
theorem dX10_areTwo_25 : decode cX10_areTwo 25 = .ok (.iconst 0, 1) := by decide +kernel
theorem dX10_areTwo_26 : decode cX10_areTwo 26 = .ok (.ireturn, 1) := by decide +kernel
theorem dX10_rests_0 : decode cX10_rests 0 = .ok (.aload_n 0, 1) := by decide +kernel
theorem dX10_rests_1 : decode cX10_rests 1 = .ok (.iconst 0, 1) := by decide +kernel
theorem dX10_rests_2 : decode cX10_rests 2 = .ok (.putfield 145, 3) := by decide +kernel
theorem dX10_rests_5 : decode cX10_rests 5 = .ok (.aload_n 0, 1) := by decide +kernel
theorem dX10_rests_6 : decode cX10_rests 6 = .ok (.iload_n 1, 1) := by decide +kernel
theorem dX10_rests_7 : decode cX10_rests 7 = .ok (.iload_n 2, 1) := by decide +kernel
theorem dX10_rests_8 : decode cX10_rests 8 = .ok (.invokevirtual 419, 3) := by decide +kernel
theorem dX10_rests_11 : decode cX10_rests 11 = .ok (.ifCond .ne 5, 3) := by decide +kernel
theorem dX10_rests_14 : decode cX10_rests 14 = .ok (.iconst (-1), 1) := by decide +kernel
theorem dX10_rests_15 : decode cX10_rests 15 = .ok (.ireturn, 1) := by decide +kernel
theorem dX10_rests_16 : decode cX10_rests 16 = .ok (.aload_n 0, 1) := by decide +kernel
theorem dX10_rests_17 : decode cX10_rests 17 = .ok (.iload_n 1, 1) := by decide +kernel
theorem dX10_rests_18 : decode cX10_rests 18 = .ok (.iload_n 2, 1) := by decide +kernel
theorem dX10_rests_19 : decode cX10_rests 19 = .ok (.invokevirtual 422, 3) := by decide +kernel
theorem dX10_rests_22 : decode cX10_rests 22 = .ok (.aload_n 0, 1) := by decide +kernel
theorem dX10_rests_23 : decode cX10_rests 23 = .ok (.iconst (-1), 1) := by decide +kernel
theorem dX10_rests_24 : decode cX10_rests 24 = .ok (.invokevirtual 425, 3) := by decide +kernel
theorem dX10_rests_27 : decode cX10_rests 27 = .ok (.ireturn, 1) := by decide +kernel
theorem dX10_rest_0 : decode cX10_rest 0 = .ok (.aload_n 0, 1) := by decide +kernel
theorem dX10_rest_1 : decode cX10_rest 1 = .ok (.iconst 0, 1) := by decide +kernel
theorem dX10_rest_2 : decode cX10_rest 2 = .ok (.putfield 145, 3) := by decide +kernel
theorem dX10_rest_5 : decode cX10_rest 5 = .ok (.aload_n 0, 1) := by decide +kernel
theorem dX10_rest_6 : decode cX10_rest 6 = .ok (.iload_n 1, 1) := by decide +kernel
theorem dX10_rest_7 : decode cX10_rest 7 = .ok (.iload_n 2, 1) := by decide +kernel
theorem dX10_rest_8 : decode cX10_rest 8 = .ok (.invokevirtual 419, 3) := by decide +kernel
theorem dX10_rest_11 : decode cX10_rest 11 = .ok (.ifCond .eq 7, 3) := by decide +kernel
theorem dX10_rest_14 : decode cX10_rest 14 = .ok (.iload_n 3, 1) := by decide +kernel
theorem dX10_rest_15 : decode cX10_rest 15 = .ok (.ifCond .ge 5, 3) := by decide +kernel
theorem dX10_rest_18 : decode cX10_rest 18 = .ok (.iconst (-1), 1) := by decide +kernel
theorem dX10_rest_19 : decode cX10_rest 19 = .ok (.ireturn, 1) := by decide +kernel
theorem dX10_rest_20 : decode cX10_rest 20 = .ok (.aload_n 0, 1) := by decide +kernel
theorem dX10_rest_21 : decode cX10_rest 21 = .ok (.iload_n 1, 1) := by decide +kernel
theorem dX10_rest_22 : decode cX10_rest 22 = .ok (.iload_n 2, 1) := by decide +kernel
theorem dX10_rest_23 : decode cX10_rest 23 = .ok (.invokevirtual 422, 3) := by decide +kernel
theorem dX10_rest_26 : decode cX10_rest 26 = .ok (.aload_n 0, 1) := by decide +kernel
theorem dX10_rest_27 : decode cX10_rest 27 = .ok (.iload_n 3, 1) := by decide +kernel
theorem dX10_rest_28 : decode cX10_rest 28 = .ok (.invokevirtual 425, 3) := by decide +kernel
theorem dX10_rest_31 : decode cX10_rest 31 = .ok (.ireturn, 1) := by decide +kernel
theorem dX10_common_0 : decode cX10_common 0 = .ok (.iload_n 0, 1) := by decide +kernel
theorem dX10_common_1 : decode cX10_common 1 = .ok (.istore_n 2, 1) := by decide +kernel
theorem dX10_common_2 : decode cX10_common 2 = .ok (.iload_n 1, 1) := by decide +kernel
theorem dX10_common_3 : decode cX10_common 3 = .ok (.istore_n 3, 1) := by decide +kernel
theorem dX10_common_4 : decode cX10_common 4 = .ok (.iload_n 3, 1) := by decide +kernel
theorem dX10_common_5 : decode cX10_common 5 = .ok (.ifCond .eq 16, 3) := by decide +kernel
theorem dX10_common_8 : decode cX10_common 8 = .ok (.iload_n 2, 1) := by decide +kernel
theorem dX10_common_9 : decode cX10_common 9 = .ok (.iload_n 3, 1) := by decide +kernel
theorem dX10_common_10 : decode cX10_common 10 = .ok (.irem, 1) := by decide +kernel
theorem dX10_common_11 : decode cX10_common 11 = .ok (.istore 4, 2) := by decide +kernel
theorem dX10_common_13 : decode cX10_common 13 = .ok (.iload_n 3, 1) := by decide +kernel
theorem dX10_common_14 : decode cX10_common 14 = .ok (.istore_n 2, 1) := by decide +kernel
theorem dX10_common_15 : decode cX10_common 15 = .ok (.iload 4, 2) := by decide +kernel
theorem dX10_common_17 : decode cX10_common 17 = .ok (.istore_n 3, 1) := by decide +kernel
theorem dX10_common_18 : decode cX10_common 18 = .ok (.goto (-14), 3) := by decide +kernel
theorem dX10_common_21 : decode cX10_common 21 = .ok (.iload_n 2, 1) := by decide +kernel
theorem dX10_common_22 : decode cX10_common 22 = .ok (.ireturn, 1) := by decide +kernel
theorem dX10_falseOnes_0 : decode cX10_falseOnes 0 = .ok (.aload_n 0, 1) := by decide +kernel
theorem dX10_falseOnes_1 : decode cX10_falseOnes 1 = .ok (.iconst 0, 1) := by decide +kernel
theorem dX10_falseOnes_2 : decode cX10_falseOnes 2 = .ok (.putfield 145, 3) := by decide +kernel
theorem dX10_falseOnes_5 : decode cX10_falseOnes 5 = .ok (.aload_n 0, 1) := by decide +kernel
theorem dX10_falseOnes_6 : decode cX10_falseOnes 6 = .ok (.iload_n 1, 1) := by decide +kernel
theorem dX10_falseOnes_7 : decode cX10_falseOnes 7 = .ok (.invokevirtual 394, 3) := by decide +kernel
theorem dX10_falseOnes_10 : decode cX10_falseOnes 10 = .ok (.ifCond .eq 12, 3) := by decide +kernel
theorem dX10_falseOnes_13 : decode cX10_falseOnes 13 = .ok (.iload_n 2, 1) := by decide +kernel
theorem dX10_falseOnes_14 : decode cX10_falseOnes 14 = .ok (.ifCond .lt 8, 3) := by decide +kernel
theorem dX10_falseOnes_17 : decode cX10_falseOnes 17 = .ok (.iload_n 2, 1) := by decide +kernel
theorem dX10_falseOnes_18 : decode cX10_falseOnes 18 = .ok (.iconst 1, 1) := by decide +kernel
theorem dX10_falseOnes_19 : decode cX10_falseOnes 19 = .ok (.if_icmp .le 5, 3) := by decide +kernel
theorem dX10_falseOnes_22 : decode cX10_falseOnes 22 = .ok (.iconst (-1), 1) := by decide +kernel
theorem dX10_falseOnes_23 : decode cX10_falseOnes 23 = .ok (.ireturn, 1) := by decide +kernel
theorem dX10_falseOnes_24 : decode cX10_falseOnes 24 = .ok (.iconst 0, 1) := by decide +kernel
theorem dX10_falseOnes_25 : decode cX10_falseOnes 25 = .ok (.istore_n 3, 1) := by decide +kernel
theorem dX10_falseOnes_26 : decode cX10_falseOnes 26 = .ok (.iconst 0, 1) := by decide +kernel
theorem dX10_falseOnes_27 : decode cX10_falseOnes 27 = .ok (.istore 4, 2) := by decide +kernel
theorem dX10_falseOnes_29 : decode cX10_falseOnes 29 = .ok (.iconst 0, 1) := by decide +kernel
theorem dX10_falseOnes_30 : decode cX10_falseOnes 30 = .ok (.istore 5, 2) := by decide +kernel
theorem dX10_falseOnes_32 : decode cX10_falseOnes 32 = .ok (.iload 5, 2) := by decide +kernel
theorem dX10_falseOnes_34 : decode cX10_falseOnes 34 = .ok (.aload_n 0, 1) := by decide +kernel
theorem dX10_falseOnes_35 : decode cX10_falseOnes 35 = .ok (.getfield 13, 3) := by decide +kernel
theorem dX10_falseOnes_38 : decode cX10_falseOnes 38 = .ok (.iconst 1, 1) := by decide +kernel
theorem dX10_falseOnes_39 : decode cX10_falseOnes 39 = .ok (.iaload, 1) := by decide +kernel
theorem dX10_falseOnes_40 : decode cX10_falseOnes 40 = .ok (.if_icmp .ge 63, 3) := by decide +kernel
theorem dX10_falseOnes_43 : decode cX10_falseOnes 43 = .ok (.aload_n 0, 1) := by decide +kernel
theorem dX10_falseOnes_44 : decode cX10_falseOnes 44 = .ok (.getfield 108, 3) := by decide +kernel
theorem dX10_falseOnes_47 : decode cX10_falseOnes 47 = .ok (.bipush 6, 2) := by decide +kernel
theorem dX10_falseOnes_49 : decode cX10_falseOnes 49 = .ok (.iload_n 1, 1) := by decide +kernel
theorem dX10_falseOnes_50 : decode cX10_falseOnes 50 = .ok (.imul, 1) := by decide +kernel
theorem dX10_falseOnes_51 : decode cX10_falseOnes 51 = .ok (.iload 5, 2) := by decide +kernel
theorem dX10_falseOnes_53 : decode cX10_falseOnes 53 = .ok (.iadd, 1) := by decide +kernel
theorem dX10_falseOnes_54 : decode cX10_falseOnes 54 = .ok (.iaload, 1) := by decide +kernel
theorem dX10_falseOnes_55 : decode cX10_falseOnes 55 = .ok (.istore 6, 2) := by decide +kernel
theorem dX10_falseOnes_57 : decode cX10_falseOnes 57 = .ok (.iload_n 3, 1) := by decide +kernel
theorem dX10_falseOnes_58 : decode cX10_falseOnes 58 = .ok (.iload 6, 2) := by decide +kernel
theorem dX10_falseOnes_60 : decode cX10_falseOnes 60 = .ok (.iconst 0, 1) := by decide +kernel
theorem dX10_falseOnes_61 : decode cX10_falseOnes 61 = .ok (.aload_n 0, 1) := by decide +kernel
theorem dX10_falseOnes_62 : decode cX10_falseOnes 62 = .ok (.getfield 34, 3) := by decide +kernel
theorem dX10_falseOnes_65 : decode cX10_falseOnes 65 = .ok (.iload 5, 2) := by decide +kernel
theorem dX10_falseOnes_67 : decode cX10_falseOnes 67 = .ok (.iaload, 1) := by decide +kernel
theorem dX10_falseOnes_68 : decode cX10_falseOnes 68 = .ok (.aload_n 0, 1) := by decide +kernel
theorem dX10_falseOnes_69 : decode cX10_falseOnes 69 = .ok (.getfield 31, 3) := by decide +kernel
theorem dX10_falseOnes_72 : decode cX10_falseOnes 72 = .ok (.iload 5, 2) := by decide +kernel
theorem dX10_falseOnes_74 : decode cX10_falseOnes 74 = .ok (.iaload, 1) := by decide +kernel
theorem dX10_falseOnes_75 : decode cX10_falseOnes 75 = .ok (.isub, 1) := by decide +kernel
theorem dX10_falseOnes_76 : decode cX10_falseOnes 76 = .ok (.invokestatic 337, 3) := by decide +kernel
theorem dX10_falseOnes_79 : decode cX10_falseOnes 79 = .ok (.imul, 1) := by decide +kernel
theorem dX10_falseOnes_80 : decode cX10_falseOnes 80 = .ok (.iadd, 1) := by decide +kernel
theorem dX10_falseOnes_81 : decode cX10_falseOnes 81 = .ok (.istore_n 3, 1) := by decide +kernel
theorem dX10_falseOnes_82 : decode cX10_falseOnes 82 = .ok (.iload 4, 2) := by decide +kernel
theorem dX10_falseOnes_84 : decode cX10_falseOnes 84 = .ok (.iload 6, 2) := by decide +kernel
theorem dX10_falseOnes_86 : decode cX10_falseOnes 86 = .ok (.aload_n 0, 1) := by decide +kernel
theorem dX10_falseOnes_87 : decode cX10_falseOnes 87 = .ok (.getfield 34, 3) := by decide +kernel
theorem dX10_falseOnes_90 : decode cX10_falseOnes 90 = .ok (.iload 5, 2) := by decide +kernel
theorem dX10_falseOnes_92 : decode cX10_falseOnes 92 = .ok (.iaload, 1) := by decide +kernel
theorem dX10_falseOnes_93 : decode cX10_falseOnes 93 = .ok (.imul, 1) := by decide +kernel
theorem dX10_falseOnes_94 : decode cX10_falseOnes 94 = .ok (.iadd, 1) := by decide +kernel
theorem dX10_falseOnes_95 : decode cX10_falseOnes 95 = .ok (.istore 4, 2) := by decide +kernel
theorem dX10_falseOnes_97 : decode cX10_falseOnes 97 = .ok (.iinc 5 1, 3) := by decide +kernel
theorem dX10_falseOnes_100 : decode cX10_falseOnes 100 = .ok (.goto (-68), 3) := by decide +kernel
theorem dX10_falseOnes_103 : decode cX10_falseOnes 103 = .ok (.iload 4, 2) := by decide +kernel
theorem dX10_falseOnes_105 : decode cX10_falseOnes 105 = .ok (.ifCond .ne 5, 3) := by decide +kernel
theorem dX10_falseOnes_108 : decode cX10_falseOnes 108 = .ok (.iload_n 2, 1) := by decide +kernel
theorem dX10_falseOnes_109 : decode cX10_falseOnes 109 = .ok (.ireturn, 1) := by decide +kernel
theorem dX10_falseOnes_110 : decode cX10_falseOnes 110 = .ok (.iload_n 3, 1) := by decide +kernel
theorem dX10_falseOnes_111 : decode cX10_falseOnes 111 = .ok (.iload 4, 2) := by decide +kernel
theorem dX10_falseOnes_113 : decode cX10_falseOnes 113 = .ok (.invokestatic 428, 3) := by decide +kernel
theorem dX10_falseOnes_116 : decode cX10_falseOnes 116 = .ok (.istore 5, 2) := by decide +kernel
theorem dX10_falseOnes_118 : decode cX10_falseOnes 118 = .ok (.iload_n 2, 1) := by decide +kernel
theorem dX10_falseOnes_119 : decode cX10_falseOnes 119 = .ok (.ifCond .ne 10, 3) := by decide +kernel
theorem dX10_falseOnes_122 : decode cX10_falseOnes 122 = .ok (.iload_n 3, 1) := by decide +kernel
theorem dX10_falseOnes_123 : decode cX10_falseOnes 123 = .ok (.iload 5, 2) := by decide +kernel
theorem dX10_falseOnes_125 : decode cX10_falseOnes 125 = .ok (.idiv, 1) := by decide +kernel
theorem dX10_falseOnes_126 : decode cX10_falseOnes 126 = .ok (.goto 8, 3) := by decide +kernel
theorem dX10_falseOnes_129 : decode cX10_falseOnes 129 = .ok (.iload 4, 2) := by decide +kernel
theorem dX10_falseOnes_131 : decode cX10_falseOnes 131 = .ok (.iload 5, 2) := by decide +kernel
theorem dX10_falseOnes_133 : decode cX10_falseOnes 133 = .ok (.idiv, 1) := by decide +kernel
theorem dX10_falseOnes_134 : decode cX10_falseOnes 134 = .ok (.ireturn, 1) := by decide +kernel
theorem dX10_habit_0 : decode cX10_habit 0 = .ok (.aload_n 0, 1) := by decide +kernel
theorem dX10_habit_1 : decode cX10_habit 1 = .ok (.iconst 0, 1) := by decide +kernel
theorem dX10_habit_2 : decode cX10_habit 2 = .ok (.putfield 145, 3) := by decide +kernel
theorem dX10_habit_5 : decode cX10_habit 5 = .ok (.aload_n 0, 1) := by decide +kernel
theorem dX10_habit_6 : decode cX10_habit 6 = .ok (.iload_n 1, 1) := by decide +kernel
theorem dX10_habit_7 : decode cX10_habit 7 = .ok (.invokevirtual 394, 3) := by decide +kernel
theorem dX10_habit_10 : decode cX10_habit 10 = .ok (.ifCond .ne 5, 3) := by decide +kernel
theorem dX10_habit_13 : decode cX10_habit 13 = .ok (.iconst (-1), 1) := by decide +kernel
theorem dX10_habit_14 : decode cX10_habit 14 = .ok (.ireturn, 1) := by decide +kernel
theorem dX10_habit_15 : decode cX10_habit 15 = .ok (.aload_n 0, 1) := by decide +kernel
theorem dX10_habit_16 : decode cX10_habit 16 = .ok (.iconst 1, 1) := by decide +kernel
theorem dX10_habit_17 : decode cX10_habit 17 = .ok (.iconst 0, 1) := by decide +kernel
theorem dX10_habit_18 : decode cX10_habit 18 = .ok (.invokevirtual 387, 3) := by decide +kernel
theorem dX10_habit_21 : decode cX10_habit 21 = .ok (.iconst 0, 1) := by decide +kernel
theorem dX10_habit_22 : decode cX10_habit 22 = .ok (.istore_n 2, 1) := by decide +kernel
theorem dX10_habit_23 : decode cX10_habit 23 = .ok (.iload_n 2, 1) := by decide +kernel
theorem dX10_habit_24 : decode cX10_habit 24 = .ok (.bipush 99, 2) := by decide +kernel
theorem dX10_habit_26 : decode cX10_habit 26 = .ok (.if_icmp .gt 34, 3) := by decide +kernel
theorem dX10_habit_29 : decode cX10_habit 29 = .ok (.aload_n 0, 1) := by decide +kernel
theorem dX10_habit_30 : decode cX10_habit 30 = .ok (.getfield 78, 3) := by decide +kernel
theorem dX10_habit_33 : decode cX10_habit 33 = .ok (.iconst 5, 1) := by decide +kernel
theorem dX10_habit_34 : decode cX10_habit 34 = .ok (.iload_n 1, 1) := by decide +kernel
theorem dX10_habit_35 : decode cX10_habit 35 = .ok (.iadd, 1) := by decide +kernel
theorem dX10_habit_36 : decode cX10_habit 36 = .ok (.iaload, 1) := by decide +kernel
theorem dX10_habit_37 : decode cX10_habit 37 = .ok (.aload_n 0, 1) := by decide +kernel
theorem dX10_habit_38 : decode cX10_habit 38 = .ok (.getfield 75, 3) := by decide +kernel
theorem dX10_habit_41 : decode cX10_habit 41 = .ok (.iload_n 1, 1) := by decide +kernel
theorem dX10_habit_42 : decode cX10_habit 42 = .ok (.iaload, 1) := by decide +kernel
theorem dX10_habit_43 : decode cX10_habit 43 = .ok (.if_icmp .lt 5, 3) := by decide +kernel
theorem dX10_habit_46 : decode cX10_habit 46 = .ok (.iload_n 2, 1) := by decide +kernel
theorem dX10_habit_47 : decode cX10_habit 47 = .ok (.ireturn, 1) := by decide +kernel
theorem dX10_habit_48 : decode cX10_habit 48 = .ok (.aload_n 0, 1) := by decide +kernel
theorem dX10_habit_49 : decode cX10_habit 49 = .ok (.iconst 1, 1) := by decide +kernel
theorem dX10_habit_50 : decode cX10_habit 50 = .ok (.iconst 0, 1) := by decide +kernel
theorem dX10_habit_51 : decode cX10_habit 51 = .ok (.invokevirtual 390, 3) := by decide +kernel
theorem dX10_habit_54 : decode cX10_habit 54 = .ok (.iinc 2 1, 3) := by decide +kernel
theorem dX10_habit_57 : decode cX10_habit 57 = .ok (.goto (-34), 3) := by decide +kernel
theorem dX10_habit_60 : decode cX10_habit 60 = .ok (.bipush (-2), 2) := by decide +kernel
theorem dX10_habit_62 : decode cX10_habit 62 = .ok (.ireturn, 1) := by decide +kernel
theorem dX10_breaks_0 : decode cX10_breaks 0 = .ok (.aload_n 0, 1) := by decide +kernel
theorem dX10_breaks_1 : decode cX10_breaks 1 = .ok (.iconst 0, 1) := by decide +kernel
theorem dX10_breaks_2 : decode cX10_breaks 2 = .ok (.putfield 145, 3) := by decide +kernel
theorem dX10_breaks_5 : decode cX10_breaks 5 = .ok (.aload_n 0, 1) := by decide +kernel
theorem dX10_breaks_6 : decode cX10_breaks 6 = .ok (.iload_n 1, 1) := by decide +kernel
theorem dX10_breaks_7 : decode cX10_breaks 7 = .ok (.invokevirtual 394, 3) := by decide +kernel
theorem dX10_breaks_10 : decode cX10_breaks 10 = .ok (.ifCond .eq 14, 3) := by decide +kernel
theorem dX10_breaks_13 : decode cX10_breaks 13 = .ok (.iload_n 2, 1) := by decide +kernel
theorem dX10_breaks_14 : decode cX10_breaks 14 = .ok (.iconst 1, 1) := by decide +kernel
theorem dX10_breaks_15 : decode cX10_breaks 15 = .ok (.if_icmp .lt 9, 3) := by decide +kernel
theorem dX10_breaks_18 : decode cX10_breaks 18 = .ok (.iload_n 2, 1) := by decide +kernel
theorem dX10_breaks_19 : decode cX10_breaks 19 = .ok (.bipush 60, 2) := by decide +kernel
theorem dX10_breaks_21 : decode cX10_breaks 21 = .ok (.if_icmp .le 5, 3) := by decide +kernel
theorem dX10_breaks_24 : decode cX10_breaks 24 = .ok (.iconst (-1), 1) := by decide +kernel
theorem dX10_breaks_25 : decode cX10_breaks 25 = .ok (.ireturn, 1) := by decide +kernel
theorem dX10_breaks_26 : decode cX10_breaks 26 = .ok (.aload_n 0, 1) := by decide +kernel
theorem dX10_breaks_27 : decode cX10_breaks 27 = .ok (.iload_n 2, 1) := by decide +kernel
theorem dX10_breaks_28 : decode cX10_breaks 28 = .ok (.invokevirtual 407, 3) := by decide +kernel
theorem dX10_breaks_31 : decode cX10_breaks 31 = .ok (.aload_n 0, 1) := by decide +kernel
theorem dX10_breaks_32 : decode cX10_breaks 32 = .ok (.getfield 90, 3) := by decide +kernel
theorem dX10_breaks_35 : decode cX10_breaks 35 = .ok (.iconst 5, 1) := by decide +kernel
theorem dX10_breaks_36 : decode cX10_breaks 36 = .ok (.iload_n 1, 1) := by decide +kernel
theorem dX10_breaks_37 : decode cX10_breaks 37 = .ok (.iadd, 1) := by decide +kernel
theorem dX10_breaks_38 : decode cX10_breaks 38 = .ok (.iaload, 1) := by decide +kernel
theorem dX10_breaks_39 : decode cX10_breaks 39 = .ok (.istore_n 3, 1) := by decide +kernel
theorem dX10_breaks_40 : decode cX10_breaks 40 = .ok (.aload_n 0, 1) := by decide +kernel
theorem dX10_breaks_41 : decode cX10_breaks 41 = .ok (.iconst 1, 1) := by decide +kernel
theorem dX10_breaks_42 : decode cX10_breaks 42 = .ok (.iconst 0, 1) := by decide +kernel
theorem dX10_breaks_43 : decode cX10_breaks 43 = .ok (.invokevirtual 387, 3) := by decide +kernel
theorem dX10_breaks_46 : decode cX10_breaks 46 = .ok (.aload_n 0, 1) := by decide +kernel
theorem dX10_breaks_47 : decode cX10_breaks 47 = .ok (.getfield 96, 3) := by decide +kernel
theorem dX10_breaks_50 : decode cX10_breaks 50 = .ok (.iconst 5, 1) := by decide +kernel
theorem dX10_breaks_51 : decode cX10_breaks 51 = .ok (.iload_n 1, 1) := by decide +kernel
theorem dX10_breaks_52 : decode cX10_breaks 52 = .ok (.iadd, 1) := by decide +kernel
theorem dX10_breaks_53 : decode cX10_breaks 53 = .ok (.iconst 0, 1) := by decide +kernel
theorem dX10_breaks_54 : decode cX10_breaks 54 = .ok (.iastore, 1) := by decide +kernel
theorem dX10_breaks_55 : decode cX10_breaks 55 = .ok (.aload_n 0, 1) := by decide +kernel
theorem dX10_breaks_56 : decode cX10_breaks 56 = .ok (.iconst 1, 1) := by decide +kernel
theorem dX10_breaks_57 : decode cX10_breaks 57 = .ok (.iconst 0, 1) := by decide +kernel
theorem dX10_breaks_58 : decode cX10_breaks 58 = .ok (.invokevirtual 390, 3) := by decide +kernel
theorem dX10_breaks_61 : decode cX10_breaks 61 = .ok (.aload_n 0, 1) := by decide +kernel
theorem dX10_breaks_62 : decode cX10_breaks 62 = .ok (.getfield 96, 3) := by decide +kernel
theorem dX10_breaks_65 : decode cX10_breaks 65 = .ok (.iconst 5, 1) := by decide +kernel
theorem dX10_breaks_66 : decode cX10_breaks 66 = .ok (.iload_n 1, 1) := by decide +kernel
theorem dX10_breaks_67 : decode cX10_breaks 67 = .ok (.iadd, 1) := by decide +kernel
theorem dX10_breaks_68 : decode cX10_breaks 68 = .ok (.aload_n 0, 1) := by decide +kernel
theorem dX10_breaks_69 : decode cX10_breaks 69 = .ok (.getfield 96, 3) := by decide +kernel
theorem dX10_breaks_72 : decode cX10_breaks 72 = .ok (.iload_n 1, 1) := by decide +kernel
theorem dX10_breaks_73 : decode cX10_breaks 73 = .ok (.iaload, 1) := by decide +kernel
theorem dX10_breaks_74 : decode cX10_breaks 74 = .ok (.iastore, 1) := by decide +kernel
theorem dX10_breaks_75 : decode cX10_breaks 75 = .ok (.iconst 1, 1) := by decide +kernel
theorem dX10_breaks_76 : decode cX10_breaks 76 = .ok (.istore 4, 2) := by decide +kernel
theorem dX10_breaks_78 : decode cX10_breaks 78 = .ok (.iload 4, 2) := by decide +kernel
theorem dX10_breaks_80 : decode cX10_breaks 80 = .ok (.iload_n 2, 1) := by decide +kernel
theorem dX10_breaks_81 : decode cX10_breaks 81 = .ok (.if_icmp .ge 15, 3) := by decide +kernel
theorem dX10_breaks_84 : decode cX10_breaks 84 = .ok (.aload_n 0, 1) := by decide +kernel
theorem dX10_breaks_85 : decode cX10_breaks 85 = .ok (.iconst 1, 1) := by decide +kernel
theorem dX10_breaks_86 : decode cX10_breaks 86 = .ok (.iconst 0, 1) := by decide +kernel
theorem dX10_breaks_87 : decode cX10_breaks 87 = .ok (.invokevirtual 390, 3) := by decide +kernel
theorem dX10_breaks_90 : decode cX10_breaks 90 = .ok (.iinc 4 1, 3) := by decide +kernel
theorem dX10_breaks_93 : decode cX10_breaks 93 = .ok (.goto (-15), 3) := by decide +kernel
theorem dX10_breaks_96 : decode cX10_breaks 96 = .ok (.iconst 0, 1) := by decide +kernel
theorem dX10_breaks_97 : decode cX10_breaks 97 = .ok (.iload_n 3, 1) := by decide +kernel
theorem dX10_breaks_98 : decode cX10_breaks 98 = .ok (.aload_n 0, 1) := by decide +kernel
theorem dX10_breaks_99 : decode cX10_breaks 99 = .ok (.getfield 90, 3) := by decide +kernel
theorem dX10_breaks_102 : decode cX10_breaks 102 = .ok (.iconst 5, 1) := by decide +kernel
theorem dX10_breaks_103 : decode cX10_breaks 103 = .ok (.iload_n 1, 1) := by decide +kernel
theorem dX10_breaks_104 : decode cX10_breaks 104 = .ok (.iadd, 1) := by decide +kernel
theorem dX10_breaks_105 : decode cX10_breaks 105 = .ok (.iaload, 1) := by decide +kernel
theorem dX10_breaks_106 : decode cX10_breaks 106 = .ok (.isub, 1) := by decide +kernel
theorem dX10_breaks_107 : decode cX10_breaks 107 = .ok (.invokestatic 337, 3) := by decide +kernel
theorem dX10_breaks_110 : decode cX10_breaks 110 = .ok (.ireturn, 1) := by decide +kernel
theorem dX10_note_0 : decode cX10_note 0 = .ok (.aload_n 0, 1) := by decide +kernel
theorem dX10_note_1 : decode cX10_note 1 = .ok (.iconst 0, 1) := by decide +kernel
theorem dX10_note_2 : decode cX10_note 2 = .ok (.putfield 145, 3) := by decide +kernel
theorem dX10_note_5 : decode cX10_note 5 = .ok (.iload_n 1, 1) := by decide +kernel
theorem dX10_note_6 : decode cX10_note 6 = .ok (.iconst 1, 1) := by decide +kernel
theorem dX10_note_7 : decode cX10_note 7 = .ok (.if_icmp .lt 36, 3) := by decide +kernel
theorem dX10_note_10 : decode cX10_note 10 = .ok (.iload_n 1, 1) := by decide +kernel
theorem dX10_note_11 : decode cX10_note 11 = .ok (.bipush 40, 2) := by decide +kernel
theorem dX10_note_13 : decode cX10_note 13 = .ok (.if_icmp .gt 30, 3) := by decide +kernel
theorem dX10_note_16 : decode cX10_note 16 = .ok (.aload_n 0, 1) := by decide +kernel
theorem dX10_note_17 : decode cX10_note 17 = .ok (.iload_n 2, 1) := by decide +kernel
theorem dX10_note_18 : decode cX10_note 18 = .ok (.invokevirtual 394, 3) := by decide +kernel
theorem dX10_note_21 : decode cX10_note 21 = .ok (.ifCond .eq 22, 3) := by decide +kernel
theorem dX10_note_24 : decode cX10_note 24 = .ok (.iload_n 3, 1) := by decide +kernel
theorem dX10_note_25 : decode cX10_note 25 = .ok (.ifCond .lt 18, 3) := by decide +kernel
theorem dX10_note_28 : decode cX10_note 28 = .ok (.iload_n 3, 1) := by decide +kernel
theorem dX10_note_29 : decode cX10_note 29 = .ok (.ldc 183, 2) := by decide +kernel
theorem dX10_note_31 : decode cX10_note 31 = .ok (.if_icmp .gt 12, 3) := by decide +kernel
theorem dX10_note_34 : decode cX10_note 34 = .ok (.aload_n 0, 1) := by decide +kernel
theorem dX10_note_35 : decode cX10_note 35 = .ok (.getfield 298, 3) := by decide +kernel
theorem dX10_note_38 : decode cX10_note 38 = .ok (.bipush 24, 2) := by decide +kernel
theorem dX10_note_40 : decode cX10_note 40 = .ok (.if_icmp .ne 5, 3) := by decide +kernel
theorem dX10_note_43 : decode cX10_note 43 = .ok (.iconst (-1), 1) := by decide +kernel
theorem dX10_note_44 : decode cX10_note 44 = .ok (.ireturn, 1) := by decide +kernel
theorem dX10_note_45 : decode cX10_note 45 = .ok (.aload_n 0, 1) := by decide +kernel
theorem dX10_note_46 : decode cX10_note 46 = .ok (.getfield 123, 3) := by decide +kernel
theorem dX10_note_49 : decode cX10_note 49 = .ok (.aload_n 0, 1) := by decide +kernel
theorem dX10_note_50 : decode cX10_note 50 = .ok (.getfield 298, 3) := by decide +kernel
theorem dX10_note_53 : decode cX10_note 53 = .ok (.iload_n 1, 1) := by decide +kernel
theorem dX10_note_54 : decode cX10_note 54 = .ok (.iastore, 1) := by decide +kernel
theorem dX10_note_55 : decode cX10_note 55 = .ok (.aload_n 0, 1) := by decide +kernel
theorem dX10_note_56 : decode cX10_note 56 = .ok (.getfield 126, 3) := by decide +kernel
theorem dX10_note_59 : decode cX10_note 59 = .ok (.aload_n 0, 1) := by decide +kernel
theorem dX10_note_60 : decode cX10_note 60 = .ok (.getfield 298, 3) := by decide +kernel
theorem dX10_note_63 : decode cX10_note 63 = .ok (.iload_n 2, 1) := by decide +kernel
theorem dX10_note_64 : decode cX10_note 64 = .ok (.iastore, 1) := by decide +kernel
theorem dX10_note_65 : decode cX10_note 65 = .ok (.aload_n 0, 1) := by decide +kernel
theorem dX10_note_66 : decode cX10_note 66 = .ok (.getfield 129, 3) := by decide +kernel
theorem dX10_note_69 : decode cX10_note 69 = .ok (.aload_n 0, 1) := by decide +kernel
theorem dX10_note_70 : decode cX10_note 70 = .ok (.getfield 298, 3) := by decide +kernel
theorem dX10_note_73 : decode cX10_note 73 = .ok (.iload_n 3, 1) := by decide +kernel
theorem dX10_note_74 : decode cX10_note 74 = .ok (.iastore, 1) := by decide +kernel
theorem dX10_note_75 : decode cX10_note 75 = .ok (.aload_n 0, 1) := by decide +kernel
theorem dX10_note_76 : decode cX10_note 76 = .ok (.getfield 132, 3) := by decide +kernel
theorem dX10_note_79 : decode cX10_note 79 = .ok (.aload_n 0, 1) := by decide +kernel
theorem dX10_note_80 : decode cX10_note 80 = .ok (.getfield 298, 3) := by decide +kernel
theorem dX10_note_83 : decode cX10_note 83 = .ok (.iload 4, 2) := by decide +kernel
theorem dX10_note_85 : decode cX10_note 85 = .ok (.bastore, 1) := by decide +kernel
theorem dX10_note_86 : decode cX10_note 86 = .ok (.aload_n 0, 1) := by decide +kernel
theorem dX10_note_87 : decode cX10_note 87 = .ok (.getfield 136, 3) := by decide +kernel
theorem dX10_note_90 : decode cX10_note 90 = .ok (.aload_n 0, 1) := by decide +kernel
theorem dX10_note_91 : decode cX10_note 91 = .ok (.getfield 298, 3) := by decide +kernel
theorem dX10_note_94 : decode cX10_note 94 = .ok (.iconst (-1), 1) := by decide +kernel
theorem dX10_note_95 : decode cX10_note 95 = .ok (.iastore, 1) := by decide +kernel
theorem dX10_note_96 : decode cX10_note 96 = .ok (.aload_n 0, 1) := by decide +kernel
theorem dX10_note_97 : decode cX10_note 97 = .ok (.dup, 1) := by decide +kernel
theorem dX10_note_98 : decode cX10_note 98 = .ok (.getfield 298, 3) := by decide +kernel
theorem dX10_note_101 : decode cX10_note 101 = .ok (.iconst 1, 1) := by decide +kernel
theorem dX10_note_102 : decode cX10_note 102 = .ok (.iadd, 1) := by decide +kernel
theorem dX10_note_103 : decode cX10_note 103 = .ok (.putfield 298, 3) := by decide +kernel
theorem dX10_note_106 : decode cX10_note 106 = .ok (.aload_n 0, 1) := by decide +kernel
theorem dX10_note_107 : decode cX10_note 107 = .ok (.getfield 298, 3) := by decide +kernel
theorem dX10_note_110 : decode cX10_note 110 = .ok (.iconst 1, 1) := by decide +kernel
theorem dX10_note_111 : decode cX10_note 111 = .ok (.isub, 1) := by decide +kernel
theorem dX10_note_112 : decode cX10_note 112 = .ok (.ireturn, 1) := by decide +kernel
theorem dX10_out_0 : decode cX10_out 0 = .ok (.aload_n 0, 1) := by decide +kernel
theorem dX10_out_1 : decode cX10_out 1 = .ok (.iconst 0, 1) := by decide +kernel
theorem dX10_out_2 : decode cX10_out 2 = .ok (.putfield 145, 3) := by decide +kernel
theorem dX10_out_5 : decode cX10_out 5 = .ok (.iload_n 1, 1) := by decide +kernel
theorem dX10_out_6 : decode cX10_out 6 = .ok (.ifCond .lt 20, 3) := by decide +kernel
theorem dX10_out_9 : decode cX10_out 9 = .ok (.iload_n 1, 1) := by decide +kernel
theorem dX10_out_10 : decode cX10_out 10 = .ok (.aload_n 0, 1) := by decide +kernel
theorem dX10_out_11 : decode cX10_out 11 = .ok (.getfield 298, 3) := by decide +kernel
theorem dX10_out_14 : decode cX10_out 14 = .ok (.if_icmp .ge 12, 3) := by decide +kernel
theorem dX10_out_17 : decode cX10_out 17 = .ok (.aload_n 0, 1) := by decide +kernel
theorem dX10_out_18 : decode cX10_out 18 = .ok (.getfield 298, 3) := by decide +kernel
theorem dX10_out_21 : decode cX10_out 21 = .ok (.bipush 24, 2) := by decide +kernel
theorem dX10_out_23 : decode cX10_out 23 = .ok (.if_icmp .ne 5, 3) := by decide +kernel
theorem dX10_out_26 : decode cX10_out 26 = .ok (.iconst (-1), 1) := by decide +kernel
theorem dX10_out_27 : decode cX10_out 27 = .ok (.ireturn, 1) := by decide +kernel
theorem dX10_out_28 : decode cX10_out 28 = .ok (.aload_n 0, 1) := by decide +kernel
theorem dX10_out_29 : decode cX10_out 29 = .ok (.getfield 136, 3) := by decide +kernel
theorem dX10_out_32 : decode cX10_out 32 = .ok (.aload_n 0, 1) := by decide +kernel
theorem dX10_out_33 : decode cX10_out 33 = .ok (.getfield 298, 3) := by decide +kernel
theorem dX10_out_36 : decode cX10_out 36 = .ok (.iload_n 1, 1) := by decide +kernel
theorem dX10_out_37 : decode cX10_out 37 = .ok (.iastore, 1) := by decide +kernel
theorem dX10_out_38 : decode cX10_out 38 = .ok (.aload_n 0, 1) := by decide +kernel
theorem dX10_out_39 : decode cX10_out 39 = .ok (.dup, 1) := by decide +kernel
theorem dX10_out_40 : decode cX10_out 40 = .ok (.getfield 298, 3) := by decide +kernel
theorem dX10_out_43 : decode cX10_out 43 = .ok (.iconst 1, 1) := by decide +kernel
theorem dX10_out_44 : decode cX10_out 44 = .ok (.iadd, 1) := by decide +kernel
theorem dX10_out_45 : decode cX10_out 45 = .ok (.putfield 298, 3) := by decide +kernel
theorem dX10_out_48 : decode cX10_out 48 = .ok (.aload_n 0, 1) := by decide +kernel
theorem dX10_out_49 : decode cX10_out 49 = .ok (.getfield 298, 3) := by decide +kernel
theorem dX10_out_52 : decode cX10_out 52 = .ok (.iconst 1, 1) := by decide +kernel
theorem dX10_out_53 : decode cX10_out 53 = .ok (.isub, 1) := by decide +kernel
theorem dX10_out_54 : decode cX10_out 54 = .ok (.ireturn, 1) := by decide +kernel
theorem dX10_known_0 : decode cX10_known 0 = .ok (.aload_n 0, 1) := by decide +kernel
theorem dX10_known_1 : decode cX10_known 1 = .ok (.iconst 0, 1) := by decide +kernel
theorem dX10_known_2 : decode cX10_known 2 = .ok (.putfield 145, 3) := by decide +kernel
theorem dX10_known_5 : decode cX10_known 5 = .ok (.iload_n 1, 1) := by decide +kernel
theorem dX10_known_6 : decode cX10_known 6 = .ok (.iconst (-1), 1) := by decide +kernel
theorem dX10_known_7 : decode cX10_known 7 = .ok (.if_icmp .lt 11, 3) := by decide +kernel
theorem dX10_known_10 : decode cX10_known 10 = .ok (.iload_n 1, 1) := by decide +kernel
theorem dX10_known_11 : decode cX10_known 11 = .ok (.aload_n 0, 1) := by decide +kernel
theorem dX10_known_12 : decode cX10_known 12 = .ok (.getfield 298, 3) := by decide +kernel
theorem dX10_known_15 : decode cX10_known 15 = .ok (.if_icmp .le 5, 3) := by decide +kernel
theorem dX10_known_18 : decode cX10_known 18 = .ok (.iconst 0, 1) := by decide +kernel
theorem dX10_known_19 : decode cX10_known 19 = .ok (.ireturn, 1) := by decide +kernel
theorem dX10_known_20 : decode cX10_known 20 = .ok (.aload_n 0, 1) := by decide +kernel
theorem dX10_known_21 : decode cX10_known 21 = .ok (.iload_n 1, 1) := by decide +kernel
theorem dX10_known_22 : decode cX10_known 22 = .ok (.putfield 120, 3) := by decide +kernel
theorem dX10_known_25 : decode cX10_known 25 = .ok (.iconst 1, 1) := by decide +kernel
theorem dX10_known_26 : decode cX10_known 26 = .ok (.ireturn, 1) := by decide +kernel
theorem dX10_knownMany_0 : decode cX10_knownMany 0 = .ok (.aload_n 0, 1) := by decide +kernel
theorem dX10_knownMany_1 : decode cX10_knownMany 1 = .ok (.getfield 120, 3) := by decide +kernel
theorem dX10_knownMany_4 : decode cX10_knownMany 4 = .ok (.iconst (-1), 1) := by decide +kernel
theorem dX10_knownMany_5 : decode cX10_knownMany 5 = .ok (.if_icmp .ne 10, 3) := by decide +kernel
theorem dX10_knownMany_8 : decode cX10_knownMany 8 = .ok (.aload_n 0, 1) := by decide +kernel
theorem dX10_knownMany_9 : decode cX10_knownMany 9 = .ok (.getfield 298, 3) := by decide +kernel
theorem dX10_knownMany_12 : decode cX10_knownMany 12 = .ok (.goto 7, 3) := by decide +kernel
theorem dX10_knownMany_15 : decode cX10_knownMany 15 = .ok (.aload_n 0, 1) := by decide +kernel
theorem dX10_knownMany_16 : decode cX10_knownMany 16 = .ok (.getfield 120, 3) := by decide +kernel
theorem dX10_knownMany_19 : decode cX10_knownMany 19 = .ok (.ireturn, 1) := by decide +kernel
theorem dX10_isSo_0 : decode cX10_isSo 0 = .ok (.iconst 0, 1) := by decide +kernel
theorem dX10_isSo_1 : decode cX10_isSo 1 = .ok (.istore_n 2, 1) := by decide +kernel
theorem dX10_isSo_2 : decode cX10_isSo 2 = .ok (.iload_n 2, 1) := by decide +kernel
theorem dX10_isSo_3 : decode cX10_isSo 3 = .ok (.aload_n 0, 1) := by decide +kernel
theorem dX10_isSo_4 : decode cX10_isSo 4 = .ok (.invokevirtual 431, 3) := by decide +kernel
theorem dX10_isSo_7 : decode cX10_isSo 7 = .ok (.if_icmp .ge 79, 3) := by decide +kernel
theorem dX10_isSo_10 : decode cX10_isSo 10 = .ok (.aload_n 0, 1) := by decide +kernel
theorem dX10_isSo_11 : decode cX10_isSo 11 = .ok (.getfield 139, 3) := by decide +kernel
theorem dX10_isSo_14 : decode cX10_isSo 14 = .ok (.iload_n 2, 1) := by decide +kernel
theorem dX10_isSo_15 : decode cX10_isSo 15 = .ok (.baload, 1) := by decide +kernel
theorem dX10_isSo_16 : decode cX10_isSo 16 = .ok (.ifCond .ne 64, 3) := by decide +kernel
theorem dX10_isSo_19 : decode cX10_isSo 19 = .ok (.aload_n 0, 1) := by decide +kernel
theorem dX10_isSo_20 : decode cX10_isSo 20 = .ok (.getfield 136, 3) := by decide +kernel
theorem dX10_isSo_23 : decode cX10_isSo 23 = .ok (.iload_n 2, 1) := by decide +kernel
theorem dX10_isSo_24 : decode cX10_isSo 24 = .ok (.iaload, 1) := by decide +kernel
theorem dX10_isSo_25 : decode cX10_isSo 25 = .ok (.iconst (-1), 1) := by decide +kernel
theorem dX10_isSo_26 : decode cX10_isSo 26 = .ok (.if_icmp .ne 54, 3) := by decide +kernel
theorem dX10_isSo_29 : decode cX10_isSo 29 = .ok (.aload_n 0, 1) := by decide +kernel
theorem dX10_isSo_30 : decode cX10_isSo 30 = .ok (.getfield 123, 3) := by decide +kernel
theorem dX10_isSo_33 : decode cX10_isSo 33 = .ok (.iload_n 2, 1) := by decide +kernel
theorem dX10_isSo_34 : decode cX10_isSo 34 = .ok (.iaload, 1) := by decide +kernel
theorem dX10_isSo_35 : decode cX10_isSo 35 = .ok (.iload_n 1, 1) := by decide +kernel
theorem dX10_isSo_36 : decode cX10_isSo 36 = .ok (.if_icmp .eq 6, 3) := by decide +kernel
theorem dX10_isSo_39 : decode cX10_isSo 39 = .ok (.goto 41, 3) := by decide +kernel
theorem dX10_isSo_42 : decode cX10_isSo 42 = .ok (.aload_n 0, 1) := by decide +kernel
theorem dX10_isSo_43 : decode cX10_isSo 43 = .ok (.getfield 93, 3) := by decide +kernel
theorem dX10_isSo_46 : decode cX10_isSo 46 = .ok (.iconst 5, 1) := by decide +kernel
theorem dX10_isSo_47 : decode cX10_isSo 47 = .ok (.aload_n 0, 1) := by decide +kernel
theorem dX10_isSo_48 : decode cX10_isSo 48 = .ok (.getfield 126, 3) := by decide +kernel
theorem dX10_isSo_51 : decode cX10_isSo 51 = .ok (.iload_n 2, 1) := by decide +kernel
theorem dX10_isSo_52 : decode cX10_isSo 52 = .ok (.iaload, 1) := by decide +kernel
theorem dX10_isSo_53 : decode cX10_isSo 53 = .ok (.iadd, 1) := by decide +kernel
theorem dX10_isSo_54 : decode cX10_isSo 54 = .ok (.iaload, 1) := by decide +kernel
theorem dX10_isSo_55 : decode cX10_isSo 55 = .ok (.aload_n 0, 1) := by decide +kernel
theorem dX10_isSo_56 : decode cX10_isSo 56 = .ok (.getfield 129, 3) := by decide +kernel
theorem dX10_isSo_59 : decode cX10_isSo 59 = .ok (.iload_n 2, 1) := by decide +kernel
theorem dX10_isSo_60 : decode cX10_isSo 60 = .ok (.iaload, 1) := by decide +kernel
theorem dX10_isSo_61 : decode cX10_isSo 61 = .ok (.if_icmp .lt 7, 3) := by decide +kernel
theorem dX10_isSo_64 : decode cX10_isSo 64 = .ok (.iconst 1, 1) := by decide +kernel
theorem dX10_isSo_65 : decode cX10_isSo 65 = .ok (.goto 4, 3) := by decide +kernel
theorem dX10_isSo_68 : decode cX10_isSo 68 = .ok (.iconst 0, 1) := by decide +kernel
theorem dX10_isSo_69 : decode cX10_isSo 69 = .ok (.aload_n 0, 1) := by decide +kernel
theorem dX10_isSo_70 : decode cX10_isSo 70 = .ok (.getfield 132, 3) := by decide +kernel
theorem dX10_isSo_73 : decode cX10_isSo 73 = .ok (.iload_n 2, 1) := by decide +kernel
theorem dX10_isSo_74 : decode cX10_isSo 74 = .ok (.baload, 1) := by decide +kernel
theorem dX10_isSo_75 : decode cX10_isSo 75 = .ok (.if_icmp .eq 5, 3) := by decide +kernel
theorem dX10_isSo_78 : decode cX10_isSo 78 = .ok (.iconst 0, 1) := by decide +kernel
theorem dX10_isSo_79 : decode cX10_isSo 79 = .ok (.ireturn, 1) := by decide +kernel
theorem dX10_isSo_80 : decode cX10_isSo 80 = .ok (.iinc 2 1, 3) := by decide +kernel
theorem dX10_isSo_83 : decode cX10_isSo 83 = .ok (.goto (-81), 3) := by decide +kernel
theorem dX10_isSo_86 : decode cX10_isSo 86 = .ok (.iconst 1, 1) := by decide +kernel
theorem dX10_isSo_87 : decode cX10_isSo 87 = .ok (.ireturn, 1) := by decide +kernel
theorem dX10_fitsTimes_0 : decode cX10_fitsTimes 0 = .ok (.aload_n 0, 1) := by decide +kernel
theorem dX10_fitsTimes_1 : decode cX10_fitsTimes 1 = .ok (.iconst 1, 1) := by decide +kernel
theorem dX10_fitsTimes_2 : decode cX10_fitsTimes 2 = .ok (.invokevirtual 328, 3) := by decide +kernel
theorem dX10_fitsTimes_5 : decode cX10_fitsTimes 5 = .ok (.aload_n 0, 1) := by decide +kernel
theorem dX10_fitsTimes_6 : decode cX10_fitsTimes 6 = .ok (.getfield 108, 3) := by decide +kernel
theorem dX10_fitsTimes_9 : decode cX10_fitsTimes 9 = .ok (.bipush 30, 2) := by decide +kernel
theorem dX10_fitsTimes_11 : decode cX10_fitsTimes 11 = .ok (.bipush 6, 2) := by decide +kernel
theorem dX10_fitsTimes_13 : decode cX10_fitsTimes 13 = .ok (.iload_n 1, 1) := by decide +kernel
theorem dX10_fitsTimes_14 : decode cX10_fitsTimes 14 = .ok (.imul, 1) := by decide +kernel
theorem dX10_fitsTimes_15 : decode cX10_fitsTimes 15 = .ok (.iadd, 1) := by decide +kernel
theorem dX10_fitsTimes_16 : decode cX10_fitsTimes 16 = .ok (.iload_n 2, 1) := by decide +kernel
theorem dX10_fitsTimes_17 : decode cX10_fitsTimes 17 = .ok (.iadd, 1) := by decide +kernel
theorem dX10_fitsTimes_18 : decode cX10_fitsTimes 18 = .ok (.iload_n 3, 1) := by decide +kernel
theorem dX10_fitsTimes_19 : decode cX10_fitsTimes 19 = .ok (.iastore, 1) := by decide +kernel
theorem dX10_fitsTimes_20 : decode cX10_fitsTimes 20 = .ok (.iconst 1, 1) := by decide +kernel
theorem dX10_fitsTimes_21 : decode cX10_fitsTimes 21 = .ok (.istore 5, 2) := by decide +kernel
theorem dX10_fitsTimes_23 : decode cX10_fitsTimes 23 = .ok (.iload 5, 2) := by decide +kernel
theorem dX10_fitsTimes_25 : decode cX10_fitsTimes 25 = .ok (.iload 4, 2) := by decide +kernel
theorem dX10_fitsTimes_27 : decode cX10_fitsTimes 27 = .ok (.if_icmp .gt 26, 3) := by decide +kernel
theorem dX10_fitsTimes_30 : decode cX10_fitsTimes 30 = .ok (.aload_n 0, 1) := by decide +kernel
theorem dX10_fitsTimes_31 : decode cX10_fitsTimes 31 = .ok (.iconst 1, 1) := by decide +kernel
theorem dX10_fitsTimes_32 : decode cX10_fitsTimes 32 = .ok (.iconst 0, 1) := by decide +kernel
theorem dX10_fitsTimes_33 : decode cX10_fitsTimes 33 = .ok (.invokevirtual 390, 3) := by decide +kernel
theorem dX10_fitsTimes_36 : decode cX10_fitsTimes 36 = .ok (.aload_n 0, 1) := by decide +kernel
theorem dX10_fitsTimes_37 : decode cX10_fitsTimes 37 = .ok (.iload 5, 2) := by decide +kernel
theorem dX10_fitsTimes_39 : decode cX10_fitsTimes 39 = .ok (.invokevirtual 434, 3) := by decide +kernel
theorem dX10_fitsTimes_42 : decode cX10_fitsTimes 42 = .ok (.ifCond .ne 5, 3) := by decide +kernel
theorem dX10_fitsTimes_45 : decode cX10_fitsTimes 45 = .ok (.iconst 0, 1) := by decide +kernel
theorem dX10_fitsTimes_46 : decode cX10_fitsTimes 46 = .ok (.ireturn, 1) := by decide +kernel
theorem dX10_fitsTimes_47 : decode cX10_fitsTimes 47 = .ok (.iinc 5 1, 3) := by decide +kernel
theorem dX10_fitsTimes_50 : decode cX10_fitsTimes 50 = .ok (.goto (-27), 3) := by decide +kernel
theorem dX10_fitsTimes_53 : decode cX10_fitsTimes 53 = .ok (.iconst 1, 1) := by decide +kernel
theorem dX10_fitsTimes_54 : decode cX10_fitsTimes 54 = .ok (.ireturn, 1) := by decide +kernel
theorem dX10_fits_0 : decode cX10_fits 0 = .ok (.aload_n 0, 1) := by decide +kernel
theorem dX10_fits_1 : decode cX10_fits 1 = .ok (.iconst 0, 1) := by decide +kernel
theorem dX10_fits_2 : decode cX10_fits 2 = .ok (.putfield 145, 3) := by decide +kernel
theorem dX10_fits_5 : decode cX10_fits 5 = .ok (.aload_n 0, 1) := by decide +kernel
theorem dX10_fits_6 : decode cX10_fits 6 = .ok (.iload_n 1, 1) := by decide +kernel
theorem dX10_fits_7 : decode cX10_fits 7 = .ok (.invokevirtual 394, 3) := by decide +kernel
theorem dX10_fits_10 : decode cX10_fits 10 = .ok (.ifCond .eq 11, 3) := by decide +kernel
theorem dX10_fits_13 : decode cX10_fits 13 = .ok (.aload_n 0, 1) := by decide +kernel
theorem dX10_fits_14 : decode cX10_fits 14 = .ok (.iload_n 2, 1) := by decide +kernel
theorem dX10_fits_15 : decode cX10_fits 15 = .ok (.invokevirtual 397, 3) := by decide +kernel
theorem dX10_fits_18 : decode cX10_fits 18 = .ok (.ifCond .ne 5, 3) := by decide +kernel
theorem dX10_fits_21 : decode cX10_fits 21 = .ok (.iconst (-1), 1) := by decide +kernel
theorem dX10_fits_22 : decode cX10_fits 22 = .ok (.ireturn, 1) := by decide +kernel
theorem dX10_fits_23 : decode cX10_fits 23 = .ok (.iconst 0, 1) := by decide +kernel
theorem dX10_fits_24 : decode cX10_fits 24 = .ok (.istore_n 3, 1) := by decide +kernel
theorem dX10_fits_25 : decode cX10_fits 25 = .ok (.iconst 0, 1) := by decide +kernel
theorem dX10_fits_26 : decode cX10_fits 26 = .ok (.istore 4, 2) := by decide +kernel
theorem dX10_fits_28 : decode cX10_fits 28 = .ok (.iload 4, 2) := by decide +kernel
theorem dX10_fits_30 : decode cX10_fits 30 = .ok (.aload_n 0, 1) := by decide +kernel
theorem dX10_fits_31 : decode cX10_fits 31 = .ok (.invokevirtual 431, 3) := by decide +kernel
theorem dX10_fits_34 : decode cX10_fits 34 = .ok (.if_icmp .ge 17, 3) := by decide +kernel
theorem dX10_fits_37 : decode cX10_fits 37 = .ok (.aload_n 0, 1) := by decide +kernel
theorem dX10_fits_38 : decode cX10_fits 38 = .ok (.getfield 139, 3) := by decide +kernel
theorem dX10_fits_41 : decode cX10_fits 41 = .ok (.iload 4, 2) := by decide +kernel
theorem dX10_fits_43 : decode cX10_fits 43 = .ok (.iconst 0, 1) := by decide +kernel
theorem dX10_fits_44 : decode cX10_fits 44 = .ok (.bastore, 1) := by decide +kernel
theorem dX10_fits_45 : decode cX10_fits 45 = .ok (.iinc 4 1, 3) := by decide +kernel
theorem dX10_fits_48 : decode cX10_fits 48 = .ok (.goto (-20), 3) := by decide +kernel
theorem dX10_fits_51 : decode cX10_fits 51 = .ok (.aload_n 0, 1) := by decide +kernel
theorem dX10_fits_52 : decode cX10_fits 52 = .ok (.invokevirtual 431, 3) := by decide +kernel
theorem dX10_fits_55 : decode cX10_fits 55 = .ok (.iconst 1, 1) := by decide +kernel
theorem dX10_fits_56 : decode cX10_fits 56 = .ok (.isub, 1) := by decide +kernel
theorem dX10_fits_57 : decode cX10_fits 57 = .ok (.istore 4, 2) := by decide +kernel
theorem dX10_fits_59 : decode cX10_fits 59 = .ok (.iload 4, 2) := by decide +kernel
theorem dX10_fits_61 : decode cX10_fits 61 = .ok (.ifCond .lt 43, 3) := by decide +kernel
theorem dX10_fits_64 : decode cX10_fits 64 = .ok (.aload_n 0, 1) := by decide +kernel
theorem dX10_fits_65 : decode cX10_fits 65 = .ok (.getfield 139, 3) := by decide +kernel
theorem dX10_fits_68 : decode cX10_fits 68 = .ok (.iload 4, 2) := by decide +kernel
theorem dX10_fits_70 : decode cX10_fits 70 = .ok (.baload, 1) := by decide +kernel
theorem dX10_fits_71 : decode cX10_fits 71 = .ok (.ifCond .ne 27, 3) := by decide +kernel
theorem dX10_fits_74 : decode cX10_fits 74 = .ok (.aload_n 0, 1) := by decide +kernel
theorem dX10_fits_75 : decode cX10_fits 75 = .ok (.getfield 136, 3) := by decide +kernel
theorem dX10_fits_78 : decode cX10_fits 78 = .ok (.iload 4, 2) := by decide +kernel
theorem dX10_fits_80 : decode cX10_fits 80 = .ok (.iaload, 1) := by decide +kernel
theorem dX10_fits_81 : decode cX10_fits 81 = .ok (.iconst (-1), 1) := by decide +kernel
theorem dX10_fits_82 : decode cX10_fits 82 = .ok (.if_icmp .eq 16, 3) := by decide +kernel
theorem dX10_fits_85 : decode cX10_fits 85 = .ok (.aload_n 0, 1) := by decide +kernel
theorem dX10_fits_86 : decode cX10_fits 86 = .ok (.getfield 139, 3) := by decide +kernel
theorem dX10_fits_89 : decode cX10_fits 89 = .ok (.aload_n 0, 1) := by decide +kernel
theorem dX10_fits_90 : decode cX10_fits 90 = .ok (.getfield 136, 3) := by decide +kernel
theorem dX10_fits_93 : decode cX10_fits 93 = .ok (.iload 4, 2) := by decide +kernel
theorem dX10_fits_95 : decode cX10_fits 95 = .ok (.iaload, 1) := by decide +kernel
theorem dX10_fits_96 : decode cX10_fits 96 = .ok (.iconst 1, 1) := by decide +kernel
theorem dX10_fits_97 : decode cX10_fits 97 = .ok (.bastore, 1) := by decide +kernel
theorem dX10_fits_98 : decode cX10_fits 98 = .ok (.iinc 4 (-1), 3) := by decide +kernel
theorem dX10_fits_101 : decode cX10_fits 101 = .ok (.goto (-42), 3) := by decide +kernel
theorem dX10_fits_104 : decode cX10_fits 104 = .ok (.iconst 0, 1) := by decide +kernel
theorem dX10_fits_105 : decode cX10_fits 105 = .ok (.istore 4, 2) := by decide +kernel
theorem dX10_fits_107 : decode cX10_fits 107 = .ok (.iload 4, 2) := by decide +kernel
theorem dX10_fits_109 : decode cX10_fits 109 = .ok (.aload_n 0, 1) := by decide +kernel
theorem dX10_fits_110 : decode cX10_fits 110 = .ok (.invokevirtual 431, 3) := by decide +kernel
theorem dX10_fits_113 : decode cX10_fits 113 = .ok (.if_icmp .ge 42, 3) := by decide +kernel
theorem dX10_fits_116 : decode cX10_fits 116 = .ok (.aload_n 0, 1) := by decide +kernel
theorem dX10_fits_117 : decode cX10_fits 117 = .ok (.getfield 139, 3) := by decide +kernel
theorem dX10_fits_120 : decode cX10_fits 120 = .ok (.iload 4, 2) := by decide +kernel
theorem dX10_fits_122 : decode cX10_fits 122 = .ok (.baload, 1) := by decide +kernel
theorem dX10_fits_123 : decode cX10_fits 123 = .ok (.ifCond .ne 26, 3) := by decide +kernel
theorem dX10_fits_126 : decode cX10_fits 126 = .ok (.aload_n 0, 1) := by decide +kernel
theorem dX10_fits_127 : decode cX10_fits 127 = .ok (.getfield 136, 3) := by decide +kernel
theorem dX10_fits_130 : decode cX10_fits 130 = .ok (.iload 4, 2) := by decide +kernel
theorem dX10_fits_132 : decode cX10_fits 132 = .ok (.iaload, 1) := by decide +kernel
theorem dX10_fits_133 : decode cX10_fits 133 = .ok (.iconst (-1), 1) := by decide +kernel
theorem dX10_fits_134 : decode cX10_fits 134 = .ok (.if_icmp .ne 15, 3) := by decide +kernel
theorem dX10_fits_137 : decode cX10_fits 137 = .ok (.iload_n 3, 1) := by decide +kernel
theorem dX10_fits_138 : decode cX10_fits 138 = .ok (.aload_n 0, 1) := by decide +kernel
theorem dX10_fits_139 : decode cX10_fits 139 = .ok (.getfield 123, 3) := by decide +kernel
theorem dX10_fits_142 : decode cX10_fits 142 = .ok (.iload 4, 2) := by decide +kernel
theorem dX10_fits_144 : decode cX10_fits 144 = .ok (.iaload, 1) := by decide +kernel
theorem dX10_fits_145 : decode cX10_fits 145 = .ok (.invokestatic 337, 3) := by decide +kernel
theorem dX10_fits_148 : decode cX10_fits 148 = .ok (.istore_n 3, 1) := by decide +kernel
theorem dX10_fits_149 : decode cX10_fits 149 = .ok (.iinc 4 1, 3) := by decide +kernel
theorem dX10_fits_152 : decode cX10_fits 152 = .ok (.goto (-45), 3) := by decide +kernel
theorem dX10_fits_155 : decode cX10_fits 155 = .ok (.iconst 0, 1) := by decide +kernel
theorem dX10_fits_156 : decode cX10_fits 156 = .ok (.istore 4, 2) := by decide +kernel
theorem dX10_fits_158 : decode cX10_fits 158 = .ok (.iconst 0, 1) := by decide +kernel
theorem dX10_fits_159 : decode cX10_fits 159 = .ok (.istore 5, 2) := by decide +kernel
theorem dX10_fits_161 : decode cX10_fits 161 = .ok (.iload 5, 2) := by decide +kernel
theorem dX10_fits_163 : decode cX10_fits 163 = .ok (.bipush 9, 2) := by decide +kernel
theorem dX10_fits_165 : decode cX10_fits 165 = .ok (.if_icmp .gt 34, 3) := by decide +kernel
theorem dX10_fits_168 : decode cX10_fits 168 = .ok (.iload 4, 2) := by decide +kernel
theorem dX10_fits_170 : decode cX10_fits 170 = .ok (.aload_n 0, 1) := by decide +kernel
theorem dX10_fits_171 : decode cX10_fits 171 = .ok (.iload_n 1, 1) := by decide +kernel
theorem dX10_fits_172 : decode cX10_fits 172 = .ok (.iload_n 2, 1) := by decide +kernel
theorem dX10_fits_173 : decode cX10_fits 173 = .ok (.iload 5, 2) := by decide +kernel
theorem dX10_fits_175 : decode cX10_fits 175 = .ok (.iload_n 3, 1) := by decide +kernel
theorem dX10_fits_176 : decode cX10_fits 176 = .ok (.invokevirtual 437, 3) := by decide +kernel
theorem dX10_fits_179 : decode cX10_fits 179 = .ok (.ifCond .eq 10, 3) := by decide +kernel
theorem dX10_fits_182 : decode cX10_fits 182 = .ok (.iconst 1, 1) := by decide +kernel
theorem dX10_fits_183 : decode cX10_fits 183 = .ok (.iload 5, 2) := by decide +kernel
theorem dX10_fits_185 : decode cX10_fits 185 = .ok (.ishl, 1) := by decide +kernel
theorem dX10_fits_186 : decode cX10_fits 186 = .ok (.goto 4, 3) := by decide +kernel
theorem dX10_fits_189 : decode cX10_fits 189 = .ok (.iconst 0, 1) := by decide +kernel
theorem dX10_fits_190 : decode cX10_fits 190 = .ok (.ior, 1) := by decide +kernel
theorem dX10_fits_191 : decode cX10_fits 191 = .ok (.istore 4, 2) := by decide +kernel
theorem dX10_fits_193 : decode cX10_fits 193 = .ok (.iinc 5 1, 3) := by decide +kernel
theorem dX10_fits_196 : decode cX10_fits 196 = .ok (.goto (-35), 3) := by decide +kernel
theorem dX10_fits_199 : decode cX10_fits 199 = .ok (.iload 4, 2) := by decide +kernel
theorem dX10_fits_201 : decode cX10_fits 201 = .ok (.ireturn, 1) := by decide +kernel
theorem dX10_chance_0 : decode cX10_chance 0 = .ok (.aload_n 0, 1) := by decide +kernel
theorem dX10_chance_1 : decode cX10_chance 1 = .ok (.iconst 0, 1) := by decide +kernel
theorem dX10_chance_2 : decode cX10_chance 2 = .ok (.putfield 145, 3) := by decide +kernel
theorem dX10_chance_5 : decode cX10_chance 5 = .ok (.iload_n 1, 1) := by decide +kernel
theorem dX10_chance_6 : decode cX10_chance 6 = .ok (.ifCond .lt 34, 3) := by decide +kernel
theorem dX10_chance_9 : decode cX10_chance 9 = .ok (.iload_n 2, 1) := by decide +kernel
theorem dX10_chance_10 : decode cX10_chance 10 = .ok (.iconst 1, 1) := by decide +kernel
theorem dX10_chance_11 : decode cX10_chance 11 = .ok (.if_icmp .lt 29, 3) := by decide +kernel
theorem dX10_chance_14 : decode cX10_chance 14 = .ok (.iload_n 2, 1) := by decide +kernel
theorem dX10_chance_15 : decode cX10_chance 15 = .ok (.bipush 60, 2) := by decide +kernel
theorem dX10_chance_17 : decode cX10_chance 17 = .ok (.if_icmp .gt 23, 3) := by decide +kernel
theorem dX10_chance_20 : decode cX10_chance 20 = .ok (.aload_n 0, 1) := by decide +kernel
theorem dX10_chance_21 : decode cX10_chance 21 = .ok (.iload_n 3, 1) := by decide +kernel
theorem dX10_chance_22 : decode cX10_chance 22 = .ok (.invokevirtual 394, 3) := by decide +kernel
theorem dX10_chance_25 : decode cX10_chance 25 = .ok (.ifCond .eq 15, 3) := by decide +kernel
theorem dX10_chance_28 : decode cX10_chance 28 = .ok (.iload 4, 2) := by decide +kernel
theorem dX10_chance_30 : decode cX10_chance 30 = .ok (.ifCond .lt 10, 3) := by decide +kernel
theorem dX10_chance_33 : decode cX10_chance 33 = .ok (.iload 4, 2) := by decide +kernel
theorem dX10_chance_35 : decode cX10_chance 35 = .ok (.bipush 99, 2) := by decide +kernel
theorem dX10_chance_37 : decode cX10_chance 37 = .ok (.if_icmp .le 5, 3) := by decide +kernel
theorem dX10_chance_40 : decode cX10_chance 40 = .ok (.iconst (-1), 1) := by decide +kernel
theorem dX10_chance_41 : decode cX10_chance 41 = .ok (.ireturn, 1) := by decide +kernel
theorem dX10_chance_42 : decode cX10_chance 42 = .ok (.iload_n 1, 1) := by decide +kernel
theorem dX10_chance_43 : decode cX10_chance 43 = .ok (.istore 5, 2) := by decide +kernel
theorem dX10_chance_45 : decode cX10_chance 45 = .ok (.iconst 0, 1) := by decide +kernel
theorem dX10_chance_46 : decode cX10_chance 46 = .ok (.istore 6, 2) := by decide +kernel
theorem dX10_chance_48 : decode cX10_chance 48 = .ok (.iconst 0, 1) := by decide +kernel
theorem dX10_chance_49 : decode cX10_chance 49 = .ok (.istore 7, 2) := by decide +kernel
theorem dX10_chance_51 : decode cX10_chance 51 = .ok (.iload 7, 2) := by decide +kernel
theorem dX10_chance_53 : decode cX10_chance 53 = .ok (.bipush 10, 2) := by decide +kernel
theorem dX10_chance_55 : decode cX10_chance 55 = .ok (.if_icmp .ge 75, 3) := by decide +kernel
theorem dX10_chance_58 : decode cX10_chance 58 = .ok (.aload_n 0, 1) := by decide +kernel
theorem dX10_chance_59 : decode cX10_chance 59 = .ok (.iconst 1, 1) := by decide +kernel
theorem dX10_chance_60 : decode cX10_chance 60 = .ok (.iconst 0, 1) := by decide +kernel
theorem dX10_chance_61 : decode cX10_chance 61 = .ok (.invokevirtual 387, 3) := by decide +kernel
theorem dX10_chance_64 : decode cX10_chance 64 = .ok (.aload_n 0, 1) := by decide +kernel
theorem dX10_chance_65 : decode cX10_chance 65 = .ok (.getfield 72, 3) := by decide +kernel
theorem dX10_chance_68 : decode cX10_chance 68 = .ok (.iconst 1, 1) := by decide +kernel
theorem dX10_chance_69 : decode cX10_chance 69 = .ok (.iload 5, 2) := by decide +kernel
theorem dX10_chance_71 : decode cX10_chance 71 = .ok (.iastore, 1) := by decide +kernel
theorem dX10_chance_72 : decode cX10_chance 72 = .ok (.iconst 0, 1) := by decide +kernel
theorem dX10_chance_73 : decode cX10_chance 73 = .ok (.istore 8, 2) := by decide +kernel
theorem dX10_chance_75 : decode cX10_chance 75 = .ok (.iload 8, 2) := by decide +kernel
theorem dX10_chance_77 : decode cX10_chance 77 = .ok (.iload_n 2, 1) := by decide +kernel
theorem dX10_chance_78 : decode cX10_chance 78 = .ok (.if_icmp .ge 15, 3) := by decide +kernel
theorem dX10_chance_81 : decode cX10_chance 81 = .ok (.aload_n 0, 1) := by decide +kernel
theorem dX10_chance_82 : decode cX10_chance 82 = .ok (.iconst 1, 1) := by decide +kernel
theorem dX10_chance_83 : decode cX10_chance 83 = .ok (.iconst 1, 1) := by decide +kernel
theorem dX10_chance_84 : decode cX10_chance 84 = .ok (.invokevirtual 390, 3) := by decide +kernel
theorem dX10_chance_87 : decode cX10_chance 87 = .ok (.iinc 8 1, 3) := by decide +kernel
theorem dX10_chance_90 : decode cX10_chance 90 = .ok (.goto (-15), 3) := by decide +kernel
theorem dX10_chance_93 : decode cX10_chance 93 = .ok (.aload_n 0, 1) := by decide +kernel
theorem dX10_chance_94 : decode cX10_chance 94 = .ok (.getfield 72, 3) := by decide +kernel
theorem dX10_chance_97 : decode cX10_chance 97 = .ok (.iconst 1, 1) := by decide +kernel
theorem dX10_chance_98 : decode cX10_chance 98 = .ok (.iaload, 1) := by decide +kernel
theorem dX10_chance_99 : decode cX10_chance 99 = .ok (.istore 5, 2) := by decide +kernel
theorem dX10_chance_101 : decode cX10_chance 101 = .ok (.iload 6, 2) := by decide +kernel
theorem dX10_chance_103 : decode cX10_chance 103 = .ok (.aload_n 0, 1) := by decide +kernel
theorem dX10_chance_104 : decode cX10_chance 104 = .ok (.getfield 81, 3) := by decide +kernel
theorem dX10_chance_107 : decode cX10_chance 107 = .ok (.iconst 5, 1) := by decide +kernel
theorem dX10_chance_108 : decode cX10_chance 108 = .ok (.iload_n 3, 1) := by decide +kernel
theorem dX10_chance_109 : decode cX10_chance 109 = .ok (.iadd, 1) := by decide +kernel
theorem dX10_chance_110 : decode cX10_chance 110 = .ok (.iaload, 1) := by decide +kernel
theorem dX10_chance_111 : decode cX10_chance 111 = .ok (.iload 4, 2) := by decide +kernel
theorem dX10_chance_113 : decode cX10_chance 113 = .ok (.if_icmp .lt 7, 3) := by decide +kernel
theorem dX10_chance_116 : decode cX10_chance 116 = .ok (.iconst 1, 1) := by decide +kernel
theorem dX10_chance_117 : decode cX10_chance 117 = .ok (.goto 4, 3) := by decide +kernel
theorem dX10_chance_120 : decode cX10_chance 120 = .ok (.iconst 0, 1) := by decide +kernel
theorem dX10_chance_121 : decode cX10_chance 121 = .ok (.iadd, 1) := by decide +kernel
theorem dX10_chance_122 : decode cX10_chance 122 = .ok (.istore 6, 2) := by decide +kernel
theorem dX10_chance_124 : decode cX10_chance 124 = .ok (.iinc 7 1, 3) := by decide +kernel
theorem dX10_chance_127 : decode cX10_chance 127 = .ok (.goto (-76), 3) := by decide +kernel
theorem dX10_chance_130 : decode cX10_chance 130 = .ok (.iload 6, 2) := by decide +kernel
theorem dX10_chance_132 : decode cX10_chance 132 = .ok (.ireturn, 1) := by decide +kernel
theorem dX10_tried_0 : decode cX10_tried 0 = .ok (.aload_n 0, 1) := by decide +kernel
theorem dX10_tried_1 : decode cX10_tried 1 = .ok (.iconst 0, 1) := by decide +kernel
theorem dX10_tried_2 : decode cX10_tried 2 = .ok (.putfield 145, 3) := by decide +kernel
theorem dX10_tried_5 : decode cX10_tried 5 = .ok (.iload_n 1, 1) := by decide +kernel
theorem dX10_tried_6 : decode cX10_tried 6 = .ok (.iconst 2, 1) := by decide +kernel
theorem dX10_tried_7 : decode cX10_tried 7 = .ok (.if_icmp .ne 11, 3) := by decide +kernel
theorem dX10_tried_10 : decode cX10_tried 10 = .ok (.aload_n 0, 1) := by decide +kernel
theorem dX10_tried_11 : decode cX10_tried 11 = .ok (.iload_n 2, 1) := by decide +kernel
theorem dX10_tried_12 : decode cX10_tried 12 = .ok (.invokevirtual 394, 3) := by decide +kernel
theorem dX10_tried_15 : decode cX10_tried 15 = .ok (.goto 21, 3) := by decide +kernel
theorem dX10_tried_18 : decode cX10_tried 18 = .ok (.iload_n 1, 1) := by decide +kernel
theorem dX10_tried_19 : decode cX10_tried 19 = .ok (.ifCond .lt 16, 3) := by decide +kernel
theorem dX10_tried_22 : decode cX10_tried 22 = .ok (.iload_n 1, 1) := by decide +kernel
theorem dX10_tried_23 : decode cX10_tried 23 = .ok (.iconst 5, 1) := by decide +kernel
theorem dX10_tried_24 : decode cX10_tried 24 = .ok (.if_icmp .gt 11, 3) := by decide +kernel
theorem dX10_tried_27 : decode cX10_tried 27 = .ok (.iload_n 2, 1) := by decide +kernel
theorem dX10_tried_28 : decode cX10_tried 28 = .ok (.ifCond .ne 7, 3) := by decide +kernel
theorem dX10_tried_31 : decode cX10_tried 31 = .ok (.iconst 1, 1) := by decide +kernel
theorem dX10_tried_32 : decode cX10_tried 32 = .ok (.goto 4, 3) := by decide +kernel
theorem dX10_tried_35 : decode cX10_tried 35 = .ok (.iconst 0, 1) := by decide +kernel
theorem dX10_tried_36 : decode cX10_tried 36 = .ok (.istore 4, 2) := by decide +kernel
theorem dX10_tried_38 : decode cX10_tried 38 = .ok (.iload 4, 2) := by decide +kernel
theorem dX10_tried_40 : decode cX10_tried 40 = .ok (.ifCond .eq 13, 3) := by decide +kernel
theorem dX10_tried_43 : decode cX10_tried 43 = .ok (.iload_n 3, 1) := by decide +kernel
theorem dX10_tried_44 : decode cX10_tried 44 = .ok (.ifCond .lt 9, 3) := by decide +kernel
theorem dX10_tried_47 : decode cX10_tried 47 = .ok (.iload_n 3, 1) := by decide +kernel
theorem dX10_tried_48 : decode cX10_tried 48 = .ok (.bipush 60, 2) := by decide +kernel
theorem dX10_tried_50 : decode cX10_tried 50 = .ok (.if_icmp .le 5, 3) := by decide +kernel
theorem dX10_tried_53 : decode cX10_tried 53 = .ok (.iconst (-1), 1) := by decide +kernel
theorem dX10_tried_54 : decode cX10_tried 54 = .ok (.ireturn, 1) := by decide +kernel
theorem dX10_tried_55 : decode cX10_tried 55 = .ok (.aload_n 0, 1) := by decide +kernel
theorem dX10_tried_56 : decode cX10_tried 56 = .ok (.iload_n 1, 1) := by decide +kernel
theorem dX10_tried_57 : decode cX10_tried 57 = .ok (.putfield 331, 3) := by decide +kernel
theorem dX10_tried_60 : decode cX10_tried 60 = .ok (.aload_n 0, 1) := by decide +kernel
theorem dX10_tried_61 : decode cX10_tried 61 = .ok (.iload_n 2, 1) := by decide +kernel
theorem dX10_tried_62 : decode cX10_tried 62 = .ok (.putfield 111, 3) := by decide +kernel
theorem dX10_tried_65 : decode cX10_tried 65 = .ok (.aload_n 0, 1) := by decide +kernel
theorem dX10_tried_66 : decode cX10_tried 66 = .ok (.iload_n 3, 1) := by decide +kernel
theorem dX10_tried_67 : decode cX10_tried 67 = .ok (.invokevirtual 407, 3) := by decide +kernel
theorem dX10_tried_70 : decode cX10_tried 70 = .ok (.aload_n 0, 1) := by decide +kernel
theorem dX10_tried_71 : decode cX10_tried 71 = .ok (.iconst 0, 1) := by decide +kernel
theorem dX10_tried_72 : decode cX10_tried 72 = .ok (.putfield 331, 3) := by decide +kernel
theorem dX10_tried_75 : decode cX10_tried 75 = .ok (.aload_n 0, 1) := by decide +kernel
theorem dX10_tried_76 : decode cX10_tried 76 = .ok (.iconst (-1), 1) := by decide +kernel
theorem dX10_tried_77 : decode cX10_tried 77 = .ok (.putfield 111, 3) := by decide +kernel
theorem dX10_tried_80 : decode cX10_tried 80 = .ok (.aload_n 0, 1) := by decide +kernel
theorem dX10_tried_81 : decode cX10_tried 81 = .ok (.aload_n 0, 1) := by decide +kernel
theorem dX10_tried_82 : decode cX10_tried 82 = .ok (.getfield 90, 3) := by decide +kernel
theorem dX10_tried_85 : decode cX10_tried 85 = .ok (.iconst 1, 1) := by decide +kernel
theorem dX10_tried_86 : decode cX10_tried 86 = .ok (.invokevirtual 441, 3) := by decide +kernel
theorem dX10_tried_89 : decode cX10_tried 89 = .ok (.aload_n 0, 1) := by decide +kernel
theorem dX10_tried_90 : decode cX10_tried 90 = .ok (.aload_n 0, 1) := by decide +kernel
theorem dX10_tried_91 : decode cX10_tried 91 = .ok (.getfield 90, 3) := by decide +kernel
theorem dX10_tried_94 : decode cX10_tried 94 = .ok (.iconst 0, 1) := by decide +kernel
theorem dX10_tried_95 : decode cX10_tried 95 = .ok (.invokevirtual 441, 3) := by decide +kernel
theorem dX10_tried_98 : decode cX10_tried 98 = .ok (.isub, 1) := by decide +kernel
theorem dX10_tried_99 : decode cX10_tried 99 = .ok (.ireturn, 1) := by decide +kernel
theorem dX10_undo_0 : decode cX10_undo 0 = .ok (.aload_n 0, 1) := by decide +kernel
theorem dX10_undo_1 : decode cX10_undo 1 = .ok (.iconst 0, 1) := by decide +kernel
theorem dX10_undo_2 : decode cX10_undo 2 = .ok (.putfield 145, 3) := by decide +kernel
theorem dX10_undo_5 : decode cX10_undo 5 = .ok (.aload_n 0, 1) := by decide +kernel
theorem dX10_undo_6 : decode cX10_undo 6 = .ok (.getfield 305, 3) := by decide +kernel
theorem dX10_undo_9 : decode cX10_undo 9 = .ok (.ifCond .ne 5, 3) := by decide +kernel
theorem dX10_undo_12 : decode cX10_undo 12 = .ok (.iconst (-1), 1) := by decide +kernel
theorem dX10_undo_13 : decode cX10_undo 13 = .ok (.ireturn, 1) := by decide +kernel
theorem dX10_undo_14 : decode cX10_undo 14 = .ok (.aload_n 0, 1) := by decide +kernel
theorem dX10_undo_15 : decode cX10_undo 15 = .ok (.dup, 1) := by decide +kernel
theorem dX10_undo_16 : decode cX10_undo 16 = .ok (.getfield 305, 3) := by decide +kernel
theorem dX10_undo_19 : decode cX10_undo 19 = .ok (.iconst 1, 1) := by decide +kernel
theorem dX10_undo_20 : decode cX10_undo 20 = .ok (.isub, 1) := by decide +kernel
theorem dX10_undo_21 : decode cX10_undo 21 = .ok (.putfield 305, 3) := by decide +kernel
theorem dX10_undo_24 : decode cX10_undo 24 = .ok (.aload_n 0, 1) := by decide +kernel
theorem dX10_undo_25 : decode cX10_undo 25 = .ok (.iconst 0, 1) := by decide +kernel
theorem dX10_undo_26 : decode cX10_undo 26 = .ok (.iconst 3, 1) := by decide +kernel
theorem dX10_undo_27 : decode cX10_undo 27 = .ok (.aload_n 0, 1) := by decide +kernel
theorem dX10_undo_28 : decode cX10_undo 28 = .ok (.getfield 305, 3) := by decide +kernel
theorem dX10_undo_31 : decode cX10_undo 31 = .ok (.iadd, 1) := by decide +kernel
theorem dX10_undo_32 : decode cX10_undo 32 = .ok (.invokevirtual 387, 3) := by decide +kernel
theorem dX10_undo_35 : decode cX10_undo 35 = .ok (.aload_n 0, 1) := by decide +kernel
theorem dX10_undo_36 : decode cX10_undo 36 = .ok (.getfield 305, 3) := by decide +kernel
theorem dX10_undo_39 : decode cX10_undo 39 = .ok (.ireturn, 1) := by decide +kernel
theorem dX10_keep_0 : decode cX10_keep 0 = .ok (.aload_n 0, 1) := by decide +kernel
theorem dX10_keep_1 : decode cX10_keep 1 = .ok (.iconst 0, 1) := by decide +kernel
theorem dX10_keep_2 : decode cX10_keep 2 = .ok (.putfield 145, 3) := by decide +kernel
theorem dX10_keep_5 : decode cX10_keep 5 = .ok (.aload_n 0, 1) := by decide +kernel
theorem dX10_keep_6 : decode cX10_keep 6 = .ok (.iconst 2, 1) := by decide +kernel
theorem dX10_keep_7 : decode cX10_keep 7 = .ok (.iconst 0, 1) := by decide +kernel
theorem dX10_keep_8 : decode cX10_keep 8 = .ok (.invokevirtual 387, 3) := by decide +kernel
theorem dX10_keep_11 : decode cX10_keep 11 = .ok (.aload_n 0, 1) := by decide +kernel
theorem dX10_keep_12 : decode cX10_keep 12 = .ok (.iconst 1, 1) := by decide +kernel
theorem dX10_keep_13 : decode cX10_keep 13 = .ok (.putfield 301, 3) := by decide +kernel
theorem dX10_keep_16 : decode cX10_keep 16 = .ok (.aload_n 0, 1) := by decide +kernel
theorem dX10_keep_17 : decode cX10_keep 17 = .ok (.getfield 66, 3) := by decide +kernel
theorem dX10_keep_20 : decode cX10_keep 20 = .ok (.iconst 0, 1) := by decide +kernel
theorem dX10_keep_21 : decode cX10_keep 21 = .ok (.iaload, 1) := by decide +kernel
theorem dX10_keep_22 : decode cX10_keep 22 = .ok (.ireturn, 1) := by decide +kernel
theorem dX10_back_0 : decode cX10_back 0 = .ok (.aload_n 0, 1) := by decide +kernel
theorem dX10_back_1 : decode cX10_back 1 = .ok (.iconst 0, 1) := by decide +kernel
theorem dX10_back_2 : decode cX10_back 2 = .ok (.putfield 145, 3) := by decide +kernel
theorem dX10_back_5 : decode cX10_back 5 = .ok (.aload_n 0, 1) := by decide +kernel
theorem dX10_back_6 : decode cX10_back 6 = .ok (.getfield 301, 3) := by decide +kernel
theorem dX10_back_9 : decode cX10_back 9 = .ok (.ifCond .ne 5, 3) := by decide +kernel
theorem dX10_back_12 : decode cX10_back 12 = .ok (.iconst (-1), 1) := by decide +kernel
theorem dX10_back_13 : decode cX10_back 13 = .ok (.ireturn, 1) := by decide +kernel
theorem dX10_back_14 : decode cX10_back 14 = .ok (.aload_n 0, 1) := by decide +kernel
theorem dX10_back_15 : decode cX10_back 15 = .ok (.iconst 0, 1) := by decide +kernel
theorem dX10_back_16 : decode cX10_back 16 = .ok (.iconst 2, 1) := by decide +kernel
theorem dX10_back_17 : decode cX10_back 17 = .ok (.invokevirtual 387, 3) := by decide +kernel
theorem dX10_back_20 : decode cX10_back 20 = .ok (.aload_n 0, 1) := by decide +kernel
theorem dX10_back_21 : decode cX10_back 21 = .ok (.iconst 0, 1) := by decide +kernel
theorem dX10_back_22 : decode cX10_back 22 = .ok (.putfield 305, 3) := by decide +kernel
theorem dX10_back_25 : decode cX10_back 25 = .ok (.aload_n 0, 1) := by decide +kernel
theorem dX10_back_26 : decode cX10_back 26 = .ok (.getfield 66, 3) := by decide +kernel
theorem dX10_back_29 : decode cX10_back 29 = .ok (.iconst 0, 1) := by decide +kernel
theorem dX10_back_30 : decode cX10_back 30 = .ok (.iaload, 1) := by decide +kernel
theorem dX10_back_31 : decode cX10_back 31 = .ok (.ireturn, 1) := by decide +kernel
theorem dX10_count_0 : decode cX10_count 0 = .ok (.aload_n 0, 1) := by decide +kernel
theorem dX10_count_1 : decode cX10_count 1 = .ok (.iconst 0, 1) := by decide +kernel
theorem dX10_count_2 : decode cX10_count 2 = .ok (.putfield 145, 3) := by decide +kernel
theorem dX10_count_5 : decode cX10_count 5 = .ok (.iload_n 1, 1) := by decide +kernel
theorem dX10_count_6 : decode cX10_count 6 = .ok (.tableswitch 178 0 13 #[70, 77, 84, 91, 99, 106, 113, 123, 133, 143, 153, 163, 168, 173], 70) := by decide +kernel
theorem dX10_count_76 : decode cX10_count 76 = .ok (.aload_n 0, 1) := by decide +kernel
theorem dX10_count_77 : decode cX10_count 77 = .ok (.getfield 13, 3) := by decide +kernel
theorem dX10_count_80 : decode cX10_count 80 = .ok (.iconst 0, 1) := by decide +kernel
theorem dX10_count_81 : decode cX10_count 81 = .ok (.iaload, 1) := by decide +kernel
theorem dX10_count_82 : decode cX10_count 82 = .ok (.ireturn, 1) := by decide +kernel
theorem dX10_count_83 : decode cX10_count 83 = .ok (.aload_n 0, 1) := by decide +kernel
theorem dX10_count_84 : decode cX10_count 84 = .ok (.getfield 13, 3) := by decide +kernel
theorem dX10_count_87 : decode cX10_count 87 = .ok (.iconst 1, 1) := by decide +kernel
theorem dX10_count_88 : decode cX10_count 88 = .ok (.iaload, 1) := by decide +kernel
theorem dX10_count_89 : decode cX10_count 89 = .ok (.ireturn, 1) := by decide +kernel
theorem dX10_count_90 : decode cX10_count 90 = .ok (.aload_n 0, 1) := by decide +kernel
theorem dX10_count_91 : decode cX10_count 91 = .ok (.getfield 13, 3) := by decide +kernel
theorem dX10_count_94 : decode cX10_count 94 = .ok (.iconst 2, 1) := by decide +kernel
theorem dX10_count_95 : decode cX10_count 95 = .ok (.iaload, 1) := by decide +kernel
theorem dX10_count_96 : decode cX10_count 96 = .ok (.ireturn, 1) := by decide +kernel
theorem dX10_count_97 : decode cX10_count 97 = .ok (.aload_n 0, 1) := by decide +kernel
theorem dX10_count_98 : decode cX10_count 98 = .ok (.getfield 13, 3) := by decide +kernel
theorem dX10_count_101 : decode cX10_count 101 = .ok (.bipush 9, 2) := by decide +kernel
theorem dX10_count_103 : decode cX10_count 103 = .ok (.iaload, 1) := by decide +kernel
theorem dX10_count_104 : decode cX10_count 104 = .ok (.ireturn, 1) := by decide +kernel
theorem dX10_count_105 : decode cX10_count 105 = .ok (.aload_n 0, 1) := by decide +kernel
theorem dX10_count_106 : decode cX10_count 106 = .ok (.getfield 66, 3) := by decide +kernel
theorem dX10_count_109 : decode cX10_count 109 = .ok (.iconst 0, 1) := by decide +kernel
theorem dX10_count_110 : decode cX10_count 110 = .ok (.iaload, 1) := by decide +kernel
theorem dX10_count_111 : decode cX10_count 111 = .ok (.ireturn, 1) := by decide +kernel
theorem dX10_count_112 : decode cX10_count 112 = .ok (.aload_n 0, 1) := by decide +kernel
theorem dX10_count_113 : decode cX10_count 113 = .ok (.getfield 69, 3) := by decide +kernel
theorem dX10_count_116 : decode cX10_count 116 = .ok (.iconst 0, 1) := by decide +kernel
theorem dX10_count_117 : decode cX10_count 117 = .ok (.iaload, 1) := by decide +kernel
theorem dX10_count_118 : decode cX10_count 118 = .ok (.ireturn, 1) := by decide +kernel
theorem dX10_count_119 : decode cX10_count 119 = .ok (.aload_n 0, 1) := by decide +kernel
theorem dX10_count_120 : decode cX10_count 120 = .ok (.aload_n 0, 1) := by decide +kernel
theorem dX10_count_121 : decode cX10_count 121 = .ok (.getfield 90, 3) := by decide +kernel
theorem dX10_count_124 : decode cX10_count 124 = .ok (.iconst 0, 1) := by decide +kernel
theorem dX10_count_125 : decode cX10_count 125 = .ok (.invokevirtual 441, 3) := by decide +kernel
theorem dX10_count_128 : decode cX10_count 128 = .ok (.ireturn, 1) := by decide +kernel
theorem dX10_count_129 : decode cX10_count 129 = .ok (.aload_n 0, 1) := by decide +kernel
theorem dX10_count_130 : decode cX10_count 130 = .ok (.aload_n 0, 1) := by decide +kernel
theorem dX10_count_131 : decode cX10_count 131 = .ok (.getfield 93, 3) := by decide +kernel
theorem dX10_count_134 : decode cX10_count 134 = .ok (.iconst 0, 1) := by decide +kernel
theorem dX10_count_135 : decode cX10_count 135 = .ok (.invokevirtual 441, 3) := by decide +kernel
theorem dX10_count_138 : decode cX10_count 138 = .ok (.ireturn, 1) := by decide +kernel
theorem dX10_count_139 : decode cX10_count 139 = .ok (.aload_n 0, 1) := by decide +kernel
theorem dX10_count_140 : decode cX10_count 140 = .ok (.aload_n 0, 1) := by decide +kernel
theorem dX10_count_141 : decode cX10_count 141 = .ok (.getfield 102, 3) := by decide +kernel
theorem dX10_count_144 : decode cX10_count 144 = .ok (.iconst 0, 1) := by decide +kernel
theorem dX10_count_145 : decode cX10_count 145 = .ok (.invokevirtual 441, 3) := by decide +kernel
theorem dX10_count_148 : decode cX10_count 148 = .ok (.ireturn, 1) := by decide +kernel
theorem dX10_count_149 : decode cX10_count 149 = .ok (.aload_n 0, 1) := by decide +kernel
theorem dX10_count_150 : decode cX10_count 150 = .ok (.aload_n 0, 1) := by decide +kernel
theorem dX10_count_151 : decode cX10_count 151 = .ok (.getfield 105, 3) := by decide +kernel
theorem dX10_count_154 : decode cX10_count 154 = .ok (.iconst 0, 1) := by decide +kernel
theorem dX10_count_155 : decode cX10_count 155 = .ok (.invokevirtual 441, 3) := by decide +kernel
theorem dX10_count_158 : decode cX10_count 158 = .ok (.ireturn, 1) := by decide +kernel
theorem dX10_count_159 : decode cX10_count 159 = .ok (.aload_n 0, 1) := by decide +kernel
theorem dX10_count_160 : decode cX10_count 160 = .ok (.aload_n 0, 1) := by decide +kernel
theorem dX10_count_161 : decode cX10_count 161 = .ok (.getfield 84, 3) := by decide +kernel
theorem dX10_count_164 : decode cX10_count 164 = .ok (.iconst 0, 1) := by decide +kernel
theorem dX10_count_165 : decode cX10_count 165 = .ok (.invokevirtual 441, 3) := by decide +kernel
theorem dX10_count_168 : decode cX10_count 168 = .ok (.ireturn, 1) := by decide +kernel
theorem dX10_count_169 : decode cX10_count 169 = .ok (.aload_n 0, 1) := by decide +kernel
theorem dX10_count_170 : decode cX10_count 170 = .ok (.getfield 298, 3) := by decide +kernel
theorem dX10_count_173 : decode cX10_count 173 = .ok (.ireturn, 1) := by decide +kernel
theorem dX10_count_174 : decode cX10_count 174 = .ok (.aload_n 0, 1) := by decide +kernel
theorem dX10_count_175 : decode cX10_count 175 = .ok (.invokevirtual 431, 3) := by decide +kernel
theorem dX10_count_178 : decode cX10_count 178 = .ok (.ireturn, 1) := by decide +kernel
theorem dX10_count_179 : decode cX10_count 179 = .ok (.aload_n 0, 1) := by decide +kernel
theorem dX10_count_180 : decode cX10_count 180 = .ok (.getfield 305, 3) := by decide +kernel
theorem dX10_count_183 : decode cX10_count 183 = .ok (.ireturn, 1) := by decide +kernel
theorem dX10_count_184 : decode cX10_count 184 = .ok (.iconst (-1), 1) := by decide +kernel
theorem dX10_count_185 : decode cX10_count 185 = .ok (.ireturn, 1) := by decide +kernel
theorem dJ9_abs_067f4_0 : decode cJ9_abs_067f4 0 = .ok (.lload_n 0, 1) := by decide +kernel
theorem dJ9_abs_067f4_1 : decode cJ9_abs_067f4 1 = .ok (.lconst 0, 1) := by decide +kernel
theorem dJ9_abs_067f4_2 : decode cJ9_abs_067f4 2 = .ok (.lcmp, 1) := by decide +kernel
theorem dJ9_abs_067f4_3 : decode cJ9_abs_067f4 3 = .ok (.ifCond .ge 8, 3) := by decide +kernel
theorem dJ9_abs_067f4_6 : decode cJ9_abs_067f4 6 = .ok (.lload_n 0, 1) := by decide +kernel
theorem dJ9_abs_067f4_7 : decode cJ9_abs_067f4 7 = .ok (.lneg, 1) := by decide +kernel
theorem dJ9_abs_067f4_8 : decode cJ9_abs_067f4 8 = .ok (.goto 4, 3) := by decide +kernel
theorem dJ9_abs_067f4_11 : decode cJ9_abs_067f4 11 = .ok (.lload_n 0, 1) := by decide +kernel
theorem dJ9_abs_067f4_12 : decode cJ9_abs_067f4 12 = .ok (.lreturn, 1) := by decide +kernel
theorem dJ9_max_7cf53_0 : decode cJ9_max_7cf53 0 = .ok (.iload_n 0, 1) := by decide +kernel
theorem dJ9_max_7cf53_1 : decode cJ9_max_7cf53 1 = .ok (.iload_n 1, 1) := by decide +kernel
theorem dJ9_max_7cf53_2 : decode cJ9_max_7cf53 2 = .ok (.if_icmp .lt 7, 3) := by decide +kernel
theorem dJ9_max_7cf53_5 : decode cJ9_max_7cf53 5 = .ok (.iload_n 0, 1) := by decide +kernel
theorem dJ9_max_7cf53_6 : decode cJ9_max_7cf53 6 = .ok (.goto 4, 3) := by decide +kernel
theorem dJ9_max_7cf53_9 : decode cJ9_max_7cf53 9 = .ok (.iload_n 1, 1) := by decide +kernel
theorem dJ9_max_7cf53_10 : decode cJ9_max_7cf53 10 = .ok (.ireturn, 1) := by decide +kernel
theorem dJ9_max_f86c9_0 : decode cJ9_max_f86c9 0 = .ok (.lload_n 0, 1) := by decide +kernel
theorem dJ9_max_f86c9_1 : decode cJ9_max_f86c9 1 = .ok (.lload_n 2, 1) := by decide +kernel
theorem dJ9_max_f86c9_2 : decode cJ9_max_f86c9 2 = .ok (.lcmp, 1) := by decide +kernel
theorem dJ9_max_f86c9_3 : decode cJ9_max_f86c9 3 = .ok (.ifCond .lt 7, 3) := by decide +kernel
theorem dJ9_max_f86c9_6 : decode cJ9_max_f86c9 6 = .ok (.lload_n 0, 1) := by decide +kernel
theorem dJ9_max_f86c9_7 : decode cJ9_max_f86c9 7 = .ok (.goto 4, 3) := by decide +kernel
theorem dJ9_max_f86c9_10 : decode cJ9_max_f86c9 10 = .ok (.lload_n 2, 1) := by decide +kernel
theorem dJ9_max_f86c9_11 : decode cJ9_max_f86c9 11 = .ok (.lreturn, 1) := by decide +kernel
theorem dJ9_min_7cf53_0 : decode cJ9_min_7cf53 0 = .ok (.iload_n 0, 1) := by decide +kernel
theorem dJ9_min_7cf53_1 : decode cJ9_min_7cf53 1 = .ok (.iload_n 1, 1) := by decide +kernel
theorem dJ9_min_7cf53_2 : decode cJ9_min_7cf53 2 = .ok (.if_icmp .gt 7, 3) := by decide +kernel
theorem dJ9_min_7cf53_5 : decode cJ9_min_7cf53 5 = .ok (.iload_n 0, 1) := by decide +kernel
theorem dJ9_min_7cf53_6 : decode cJ9_min_7cf53 6 = .ok (.goto 4, 3) := by decide +kernel
theorem dJ9_min_7cf53_9 : decode cJ9_min_7cf53 9 = .ok (.iload_n 1, 1) := by decide +kernel
theorem dJ9_min_7cf53_10 : decode cJ9_min_7cf53 10 = .ok (.ireturn, 1) := by decide +kernel
theorem dJ9_min_f86c9_0 : decode cJ9_min_f86c9 0 = .ok (.lload_n 0, 1) := by decide +kernel
theorem dJ9_min_f86c9_1 : decode cJ9_min_f86c9 1 = .ok (.lload_n 2, 1) := by decide +kernel
theorem dJ9_min_f86c9_2 : decode cJ9_min_f86c9 2 = .ok (.lcmp, 1) := by decide +kernel
theorem dJ9_min_f86c9_3 : decode cJ9_min_f86c9 3 = .ok (.ifCond .gt 7, 3) := by decide +kernel
theorem dJ9_min_f86c9_6 : decode cJ9_min_f86c9 6 = .ok (.lload_n 0, 1) := by decide +kernel
theorem dJ9_min_f86c9_7 : decode cJ9_min_f86c9 7 = .ok (.goto 4, 3) := by decide +kernel
theorem dJ9_min_f86c9_10 : decode cJ9_min_f86c9 10 = .ok (.lload_n 2, 1) := by decide +kernel
theorem dJ9_min_f86c9_11 : decode cJ9_min_f86c9 11 = .ok (.lreturn, 1) := by decide +kernel
theorem dJ0_length_8abf5_0 : decode cJ0_length_8abf5 0 = .ok (.aload_n 0, 1) := by decide +kernel
theorem dJ0_length_8abf5_1 : decode cJ0_length_8abf5 1 = .ok (.getfield 9, 3) := by decide +kernel
theorem dJ0_length_8abf5_4 : decode cJ0_length_8abf5 4 = .ok (.arraylength, 1) := by decide +kernel
theorem dJ0_length_8abf5_5 : decode cJ0_length_8abf5 5 = .ok (.aload_n 0, 1) := by decide +kernel
theorem dJ0_length_8abf5_6 : decode cJ0_length_8abf5 6 = .ok (.invokevirtual 335, 3) := by decide +kernel
theorem dJ0_length_8abf5_9 : decode cJ0_length_8abf5 9 = .ok (.ishr, 1) := by decide +kernel
theorem dJ0_length_8abf5_10 : decode cJ0_length_8abf5 10 = .ok (.ireturn, 1) := by decide +kernel
theorem dJ0_charAt_5068e_0 : decode cJ0_charAt_5068e 0 = .ok (.aload_n 0, 1) := by decide +kernel
theorem dJ0_charAt_5068e_1 : decode cJ0_charAt_5068e 1 = .ok (.invokevirtual 492, 3) := by decide +kernel
theorem dJ0_charAt_5068e_4 : decode cJ0_charAt_5068e 4 = .ok (.ifCond .eq 12, 3) := by decide +kernel
theorem dJ0_charAt_5068e_7 : decode cJ0_charAt_5068e 7 = .ok (.aload_n 0, 1) := by decide +kernel
theorem dJ0_charAt_5068e_8 : decode cJ0_charAt_5068e 8 = .ok (.getfield 9, 3) := by decide +kernel
theorem dJ0_charAt_5068e_11 : decode cJ0_charAt_5068e 11 = .ok (.iload_n 1, 1) := by decide +kernel
theorem dJ0_charAt_5068e_12 : decode cJ0_charAt_5068e 12 = .ok (.invokestatic 495, 3) := by decide +kernel
theorem dJ0_charAt_5068e_15 : decode cJ0_charAt_5068e 15 = .ok (.ireturn, 1) := by decide +kernel
theorem dJ0_charAt_5068e_16 : decode cJ0_charAt_5068e 16 = .ok (.aload_n 0, 1) := by decide +kernel
theorem dJ0_charAt_5068e_17 : decode cJ0_charAt_5068e 17 = .ok (.getfield 9, 3) := by decide +kernel
theorem dJ0_charAt_5068e_20 : decode cJ0_charAt_5068e 20 = .ok (.iload_n 1, 1) := by decide +kernel
theorem dJ0_charAt_5068e_21 : decode cJ0_charAt_5068e 21 = .ok (.invokestatic 498, 3) := by decide +kernel
theorem dJ0_charAt_5068e_24 : decode cJ0_charAt_5068e 24 = .ok (.ireturn, 1) := by decide +kernel
theorem dJ0_coder_7d493_0 : decode cJ0_coder_7d493 0 = .ok (.getstatic 38, 3) := by decide +kernel
theorem dJ0_coder_7d493_3 : decode cJ0_coder_7d493 3 = .ok (.ifCond .eq 10, 3) := by decide +kernel
theorem dJ0_coder_7d493_6 : decode cJ0_coder_7d493 6 = .ok (.aload_n 0, 1) := by decide +kernel
theorem dJ0_coder_7d493_7 : decode cJ0_coder_7d493 7 = .ok (.getfield 15, 3) := by decide +kernel
theorem dJ0_coder_7d493_10 : decode cJ0_coder_7d493 10 = .ok (.goto 4, 3) := by decide +kernel
theorem dJ0_coder_7d493_13 : decode cJ0_coder_7d493 13 = .ok (.iconst 1, 1) := by decide +kernel
theorem dJ0_coder_7d493_14 : decode cJ0_coder_7d493 14 = .ok (.ireturn, 1) := by decide +kernel
theorem dJ0_isLatin1_aae02_0 : decode cJ0_isLatin1_aae02 0 = .ok (.getstatic 38, 3) := by decide +kernel
theorem dJ0_isLatin1_aae02_3 : decode cJ0_isLatin1_aae02 3 = .ok (.ifCond .eq 14, 3) := by decide +kernel
theorem dJ0_isLatin1_aae02_6 : decode cJ0_isLatin1_aae02 6 = .ok (.aload_n 0, 1) := by decide +kernel
theorem dJ0_isLatin1_aae02_7 : decode cJ0_isLatin1_aae02 7 = .ok (.getfield 15, 3) := by decide +kernel
theorem dJ0_isLatin1_aae02_10 : decode cJ0_isLatin1_aae02 10 = .ok (.ifCond .ne 7, 3) := by decide +kernel
theorem dJ0_isLatin1_aae02_13 : decode cJ0_isLatin1_aae02 13 = .ok (.iconst 1, 1) := by decide +kernel
theorem dJ0_isLatin1_aae02_14 : decode cJ0_isLatin1_aae02 14 = .ok (.goto 4, 3) := by decide +kernel
theorem dJ0_isLatin1_aae02_17 : decode cJ0_isLatin1_aae02 17 = .ok (.iconst 0, 1) := by decide +kernel
theorem dJ0_isLatin1_aae02_18 : decode cJ0_isLatin1_aae02 18 = .ok (.ireturn, 1) := by decide +kernel
theorem dJ0_checkIndex_df160_0 : decode cJ0_checkIndex_df160 0 = .ok (.iload_n 0, 1) := by decide +kernel
theorem dJ0_checkIndex_df160_1 : decode cJ0_checkIndex_df160 1 = .ok (.iload_n 1, 1) := by decide +kernel
theorem dJ0_checkIndex_df160_2 : decode cJ0_checkIndex_df160 2 = .ok (.getstatic 1053, 3) := by decide +kernel
theorem dJ0_checkIndex_df160_5 : decode cJ0_checkIndex_df160 5 = .ok (.invokestatic 1059, 3) := by decide +kernel
theorem dJ0_checkIndex_df160_8 : decode cJ0_checkIndex_df160 8 = .ok (.pop, 1) := by decide +kernel
theorem dJ0_checkIndex_df160_9 : decode cJ0_checkIndex_df160 9 = .ok (.return_, 1) := by decide +kernel
theorem dJ1_charAt_3b067_0 : decode cJ1_charAt_3b067 0 = .ok (.iload_n 1, 1) := by decide +kernel
theorem dJ1_charAt_3b067_1 : decode cJ1_charAt_3b067 1 = .ok (.aload_n 0, 1) := by decide +kernel
theorem dJ1_charAt_3b067_2 : decode cJ1_charAt_3b067 2 = .ok (.arraylength, 1) := by decide +kernel
theorem dJ1_charAt_3b067_3 : decode cJ1_charAt_3b067 3 = .ok (.invokestatic 9, 3) := by decide +kernel
theorem dJ1_charAt_3b067_6 : decode cJ1_charAt_3b067 6 = .ok (.aload_n 0, 1) := by decide +kernel
theorem dJ1_charAt_3b067_7 : decode cJ1_charAt_3b067 7 = .ok (.iload_n 1, 1) := by decide +kernel
theorem dJ1_charAt_3b067_8 : decode cJ1_charAt_3b067 8 = .ok (.baload, 1) := by decide +kernel
theorem dJ1_charAt_3b067_9 : decode cJ1_charAt_3b067 9 = .ok (.sipush 255, 3) := by decide +kernel
theorem dJ1_charAt_3b067_12 : decode cJ1_charAt_3b067 12 = .ok (.iand, 1) := by decide +kernel
theorem dJ1_charAt_3b067_13 : decode cJ1_charAt_3b067 13 = .ok (.i2c, 1) := by decide +kernel
theorem dJ1_charAt_3b067_14 : decode cJ1_charAt_3b067 14 = .ok (.ireturn, 1) := by decide +kernel
theorem dJ2_getChar_3b067_0 : decode cJ2_getChar_3b067 0 = .ok (.getstatic 44, 3) := by decide +kernel
theorem dJ2_getChar_3b067_3 : decode cJ2_getChar_3b067 3 = .ok (.ifCond .ne 25, 3) := by decide +kernel
theorem dJ2_getChar_3b067_6 : decode cJ2_getChar_3b067 6 = .ok (.iload_n 1, 1) := by decide +kernel
theorem dJ2_getChar_3b067_7 : decode cJ2_getChar_3b067 7 = .ok (.ifCond .lt 11, 3) := by decide +kernel
theorem dJ2_getChar_3b067_10 : decode cJ2_getChar_3b067 10 = .ok (.iload_n 1, 1) := by decide +kernel
theorem dJ2_getChar_3b067_11 : decode cJ2_getChar_3b067 11 = .ok (.aload_n 0, 1) := by decide +kernel
theorem dJ2_getChar_3b067_12 : decode cJ2_getChar_3b067 12 = .ok (.invokestatic 48, 3) := by decide +kernel
theorem dJ2_getChar_3b067_15 : decode cJ2_getChar_3b067 15 = .ok (.if_icmp .lt 13, 3) := by decide +kernel
theorem dJ2_getChar_3b067_18 : decode cJ2_getChar_3b067 18 = .ok (.new 52, 3) := by decide +kernel
theorem dJ2_getChar_3b067_21 : decode cJ2_getChar_3b067 21 = .ok (.dup, 1) := by decide +kernel
theorem dJ2_getChar_3b067_22 : decode cJ2_getChar_3b067 22 = .ok (.ldc 54, 2) := by decide +kernel
theorem dJ2_getChar_3b067_24 : decode cJ2_getChar_3b067 24 = .ok (.invokespecial 56, 3) := by decide +kernel
theorem dJ2_getChar_3b067_27 : decode cJ2_getChar_3b067 27 = .ok (.athrow, 1) := by decide +kernel
theorem dJ2_getChar_3b067_28 : decode cJ2_getChar_3b067 28 = .ok (.iload_n 1, 1) := by decide +kernel
theorem dJ2_getChar_3b067_29 : decode cJ2_getChar_3b067 29 = .ok (.iconst 1, 1) := by decide +kernel
theorem dJ2_getChar_3b067_30 : decode cJ2_getChar_3b067 30 = .ok (.ishl, 1) := by decide +kernel
theorem dJ2_getChar_3b067_31 : decode cJ2_getChar_3b067 31 = .ok (.istore_n 1, 1) := by decide +kernel
theorem dJ2_getChar_3b067_32 : decode cJ2_getChar_3b067 32 = .ok (.aload_n 0, 1) := by decide +kernel
theorem dJ2_getChar_3b067_33 : decode cJ2_getChar_3b067 33 = .ok (.iload_n 1, 1) := by decide +kernel
theorem dJ2_getChar_3b067_34 : decode cJ2_getChar_3b067 34 = .ok (.iinc 1 1, 3) := by decide +kernel
theorem dJ2_getChar_3b067_37 : decode cJ2_getChar_3b067 37 = .ok (.baload, 1) := by decide +kernel
theorem dJ2_getChar_3b067_38 : decode cJ2_getChar_3b067 38 = .ok (.sipush 255, 3) := by decide +kernel
theorem dJ2_getChar_3b067_41 : decode cJ2_getChar_3b067 41 = .ok (.iand, 1) := by decide +kernel
theorem dJ2_getChar_3b067_42 : decode cJ2_getChar_3b067 42 = .ok (.getstatic 59, 3) := by decide +kernel
theorem dJ2_getChar_3b067_45 : decode cJ2_getChar_3b067 45 = .ok (.ishl, 1) := by decide +kernel
theorem dJ2_getChar_3b067_46 : decode cJ2_getChar_3b067 46 = .ok (.aload_n 0, 1) := by decide +kernel
theorem dJ2_getChar_3b067_47 : decode cJ2_getChar_3b067 47 = .ok (.iload_n 1, 1) := by decide +kernel
theorem dJ2_getChar_3b067_48 : decode cJ2_getChar_3b067 48 = .ok (.baload, 1) := by decide +kernel
theorem dJ2_getChar_3b067_49 : decode cJ2_getChar_3b067 49 = .ok (.sipush 255, 3) := by decide +kernel
theorem dJ2_getChar_3b067_52 : decode cJ2_getChar_3b067 52 = .ok (.iand, 1) := by decide +kernel
theorem dJ2_getChar_3b067_53 : decode cJ2_getChar_3b067 53 = .ok (.getstatic 63, 3) := by decide +kernel
theorem dJ2_getChar_3b067_56 : decode cJ2_getChar_3b067 56 = .ok (.ishl, 1) := by decide +kernel
theorem dJ2_getChar_3b067_57 : decode cJ2_getChar_3b067 57 = .ok (.ior, 1) := by decide +kernel
theorem dJ2_getChar_3b067_58 : decode cJ2_getChar_3b067 58 = .ok (.i2c, 1) := by decide +kernel
theorem dJ2_getChar_3b067_59 : decode cJ2_getChar_3b067 59 = .ok (.ireturn, 1) := by decide +kernel
theorem dJ2_length_9d52b_0 : decode cJ2_length_9d52b 0 = .ok (.aload_n 0, 1) := by decide +kernel
theorem dJ2_length_9d52b_1 : decode cJ2_length_9d52b 1 = .ok (.arraylength, 1) := by decide +kernel
theorem dJ2_length_9d52b_2 : decode cJ2_length_9d52b 2 = .ok (.iconst 1, 1) := by decide +kernel
theorem dJ2_length_9d52b_3 : decode cJ2_length_9d52b 3 = .ok (.ishr, 1) := by decide +kernel
theorem dJ2_length_9d52b_4 : decode cJ2_length_9d52b 4 = .ok (.ireturn, 1) := by decide +kernel
theorem dJ2_charAt_3b067_0 : decode cJ2_charAt_3b067 0 = .ok (.iload_n 1, 1) := by decide +kernel
theorem dJ2_charAt_3b067_1 : decode cJ2_charAt_3b067 1 = .ok (.aload_n 0, 1) := by decide +kernel
theorem dJ2_charAt_3b067_2 : decode cJ2_charAt_3b067 2 = .ok (.invokestatic 67, 3) := by decide +kernel
theorem dJ2_charAt_3b067_5 : decode cJ2_charAt_3b067 5 = .ok (.aload_n 0, 1) := by decide +kernel
theorem dJ2_charAt_3b067_6 : decode cJ2_charAt_3b067 6 = .ok (.iload_n 1, 1) := by decide +kernel
theorem dJ2_charAt_3b067_7 : decode cJ2_charAt_3b067 7 = .ok (.invokestatic 71, 3) := by decide +kernel
theorem dJ2_charAt_3b067_10 : decode cJ2_charAt_3b067 10 = .ok (.ireturn, 1) := by decide +kernel
theorem dJ2_checkIndex_2214a_0 : decode cJ2_checkIndex_2214a 0 = .ok (.iload_n 0, 1) := by decide +kernel
theorem dJ2_checkIndex_2214a_1 : decode cJ2_checkIndex_2214a 1 = .ok (.aload_n 1, 1) := by decide +kernel
theorem dJ2_checkIndex_2214a_2 : decode cJ2_checkIndex_2214a 2 = .ok (.invokestatic 48, 3) := by decide +kernel
theorem dJ2_checkIndex_2214a_5 : decode cJ2_checkIndex_2214a 5 = .ok (.invokestatic 414, 3) := by decide +kernel
theorem dJ2_checkIndex_2214a_8 : decode cJ2_checkIndex_2214a 8 = .ok (.return_, 1) := by decide +kernel
theorem dJ7_fill_53178_0 : decode cJ7_fill_53178 0 = .ok (.iconst 0, 1) := by decide +kernel
theorem dJ7_fill_53178_1 : decode cJ7_fill_53178 1 = .ok (.istore_n 2, 1) := by decide +kernel
theorem dJ7_fill_53178_2 : decode cJ7_fill_53178 2 = .ok (.aload_n 0, 1) := by decide +kernel
theorem dJ7_fill_53178_3 : decode cJ7_fill_53178 3 = .ok (.arraylength, 1) := by decide +kernel
theorem dJ7_fill_53178_4 : decode cJ7_fill_53178 4 = .ok (.istore_n 3, 1) := by decide +kernel
theorem dJ7_fill_53178_5 : decode cJ7_fill_53178 5 = .ok (.iload_n 2, 1) := by decide +kernel
theorem dJ7_fill_53178_6 : decode cJ7_fill_53178 6 = .ok (.iload_n 3, 1) := by decide +kernel
theorem dJ7_fill_53178_7 : decode cJ7_fill_53178 7 = .ok (.if_icmp .ge 13, 3) := by decide +kernel
theorem dJ7_fill_53178_10 : decode cJ7_fill_53178 10 = .ok (.aload_n 0, 1) := by decide +kernel
theorem dJ7_fill_53178_11 : decode cJ7_fill_53178 11 = .ok (.iload_n 2, 1) := by decide +kernel
theorem dJ7_fill_53178_12 : decode cJ7_fill_53178 12 = .ok (.iload_n 1, 1) := by decide +kernel
theorem dJ7_fill_53178_13 : decode cJ7_fill_53178 13 = .ok (.iastore, 1) := by decide +kernel
theorem dJ7_fill_53178_14 : decode cJ7_fill_53178 14 = .ok (.iinc 2 1, 3) := by decide +kernel
theorem dJ7_fill_53178_17 : decode cJ7_fill_53178 17 = .ok (.goto (-12), 3) := by decide +kernel
theorem dJ7_fill_53178_20 : decode cJ7_fill_53178 20 = .ok (.return_, 1) := by decide +kernel
theorem dJ3_checkIndex_8e157_0 : decode cJ3_checkIndex_8e157 0 = .ok (.iload_n 0, 1) := by decide +kernel
theorem dJ3_checkIndex_8e157_1 : decode cJ3_checkIndex_8e157 1 = .ok (.ifCond .lt 8, 3) := by decide +kernel
theorem dJ3_checkIndex_8e157_4 : decode cJ3_checkIndex_8e157 4 = .ok (.iload_n 0, 1) := by decide +kernel
theorem dJ3_checkIndex_8e157_5 : decode cJ3_checkIndex_8e157 5 = .ok (.iload_n 1, 1) := by decide +kernel
theorem dJ3_checkIndex_8e157_6 : decode cJ3_checkIndex_8e157 6 = .ok (.if_icmp .lt 10, 3) := by decide +kernel
theorem dJ3_checkIndex_8e157_9 : decode cJ3_checkIndex_8e157 9 = .ok (.aload_n 2, 1) := by decide +kernel
theorem dJ3_checkIndex_8e157_10 : decode cJ3_checkIndex_8e157 10 = .ok (.iload_n 0, 1) := by decide +kernel
theorem dJ3_checkIndex_8e157_11 : decode cJ3_checkIndex_8e157 11 = .ok (.iload_n 1, 1) := by decide +kernel
theorem dJ3_checkIndex_8e157_12 : decode cJ3_checkIndex_8e157 12 = .ok (.invokestatic 95, 3) := by decide +kernel
theorem dJ3_checkIndex_8e157_15 : decode cJ3_checkIndex_8e157 15 = .ok (.athrow, 1) := by decide +kernel
theorem dJ3_checkIndex_8e157_16 : decode cJ3_checkIndex_8e157 16 = .ok (.iload_n 0, 1) := by decide +kernel
theorem dJ3_checkIndex_8e157_17 : decode cJ3_checkIndex_8e157 17 = .ok (.ireturn, 1) := by decide +kernel
theorem dL_man_0 : decode cL_man 0 = .ok (.aload_n 3, 1) := by decide +kernel
theorem dL_man_1 : decode cL_man 1 = .ok (.iconst 0, 1) := by decide +kernel
theorem dL_man_2 : decode cL_man 2 = .ok (.aload_n 0, 1) := by decide +kernel
theorem dL_man_3 : decode cL_man 3 = .ok (.iload_n 1, 1) := by decide +kernel
theorem dL_man_4 : decode cL_man 4 = .ok (.iload_n 2, 1) := by decide +kernel
theorem dL_man_5 : decode cL_man 5 = .ok (.invokevirtual 7, 3) := by decide +kernel
theorem dL_man_8 : decode cL_man 8 = .ok (.i2l, 1) := by decide +kernel
theorem dL_man_9 : decode cL_man 9 = .ok (.lastore, 1) := by decide +kernel
theorem dL_man_10 : decode cL_man 10 = .ok (.goto 11, 3) := by decide +kernel
theorem dL_man_13 : decode cL_man 13 = .ok (.astore 4, 2) := by decide +kernel
theorem dL_man_15 : decode cL_man 15 = .ok (.iconst 1, 1) := by decide +kernel
theorem dL_man_16 : decode cL_man 16 = .ok (.ireturn, 1) := by decide +kernel
theorem dL_man_17 : decode cL_man 17 = .ok (.astore 4, 2) := by decide +kernel
theorem dL_man_19 : decode cL_man 19 = .ok (.iconst 2, 1) := by decide +kernel
theorem dL_man_20 : decode cL_man 20 = .ok (.ireturn, 1) := by decide +kernel
theorem dL_man_21 : decode cL_man 21 = .ok (.iconst 0, 1) := by decide +kernel
theorem dL_man_22 : decode cL_man 22 = .ok (.ireturn, 1) := by decide +kernel
theorem dL_law_0 : decode cL_law 0 = .ok (.new 8, 3) := by decide +kernel
theorem dL_law_3 : decode cL_law 3 = .ok (.dup, 1) := by decide +kernel
theorem dL_law_4 : decode cL_law 4 = .ok (.invokespecial 17, 3) := by decide +kernel
theorem dL_law_7 : decode cL_law 7 = .ok (.astore_n 1, 1) := by decide +kernel
theorem dL_law_8 : decode cL_law 8 = .ok (.new 18, 3) := by decide +kernel
theorem dL_law_11 : decode cL_law 11 = .ok (.dup, 1) := by decide +kernel
theorem dL_law_12 : decode cL_law 12 = .ok (.invokespecial 20, 3) := by decide +kernel
theorem dL_law_15 : decode cL_law 15 = .ok (.astore_n 2, 1) := by decide +kernel
theorem dL_law_16 : decode cL_law 16 = .ok (.iconst 1, 1) := by decide +kernel
theorem dL_law_17 : decode cL_law 17 = .ok (.newarray .long, 2) := by decide +kernel
theorem dL_law_19 : decode cL_law 19 = .ok (.astore_n 3, 1) := by decide +kernel
theorem dL_law_20 : decode cL_law 20 = .ok (.iconst 0, 1) := by decide +kernel
theorem dL_law_21 : decode cL_law 21 = .ok (.istore 4, 2) := by decide +kernel
theorem dL_law_23 : decode cL_law 23 = .ok (.iload 4, 2) := by decide +kernel
theorem dL_law_25 : decode cL_law 25 = .ok (.aload_n 0, 1) := by decide +kernel
theorem dL_law_26 : decode cL_law 26 = .ok (.arraylength, 1) := by decide +kernel
theorem dL_law_27 : decode cL_law 27 = .ok (.bipush 6, 2) := by decide +kernel
theorem dL_law_29 : decode cL_law 29 = .ok (.isub, 1) := by decide +kernel
theorem dL_law_30 : decode cL_law 30 = .ok (.if_icmp .gt 1676, 3) := by decide +kernel
theorem dL_law_33 : decode cL_law 33 = .ok (.aload_n 0, 1) := by decide +kernel
theorem dL_law_34 : decode cL_law 34 = .ok (.iload 4, 2) := by decide +kernel
theorem dL_law_36 : decode cL_law 36 = .ok (.iaload, 1) := by decide +kernel
theorem dL_law_37 : decode cL_law 37 = .ok (.bipush 63, 2) := by decide +kernel
theorem dL_law_39 : decode cL_law 39 = .ok (.iand, 1) := by decide +kernel
theorem dL_law_40 : decode cL_law 40 = .ok (.tableswitch 1660 0 39 #[176, 249, 274, 299, 336, 404, 441, 478, 515, 553, 606, 643, 692, 729, 754, 803, 840, 877, 926, 963, 976, 1001, 1026, 1063, 1112, 1137, 1174, 1223, 1260, 1285, 1322, 1399, 1424, 1449, 1486, 1547, 1596, 1609, 1622, 1635], 176) := by decide +kernel
theorem dL_law_216 : decode cL_law 216 = .ok (.aload_n 1, 1) := by decide +kernel
theorem dL_law_217 : decode cL_law 217 = .ok (.aload_n 0, 1) := by decide +kernel
theorem dL_law_218 : decode cL_law 218 = .ok (.iload 4, 2) := by decide +kernel
theorem dL_law_220 : decode cL_law 220 = .ok (.iconst 1, 1) := by decide +kernel
theorem dL_law_221 : decode cL_law 221 = .ok (.iadd, 1) := by decide +kernel
theorem dL_law_222 : decode cL_law 222 = .ok (.iaload, 1) := by decide +kernel
theorem dL_law_223 : decode cL_law 223 = .ok (.aload_n 0, 1) := by decide +kernel
theorem dL_law_224 : decode cL_law 224 = .ok (.iload 4, 2) := by decide +kernel
theorem dL_law_226 : decode cL_law 226 = .ok (.iconst 2, 1) := by decide +kernel
theorem dL_law_227 : decode cL_law 227 = .ok (.iadd, 1) := by decide +kernel
theorem dL_law_228 : decode cL_law 228 = .ok (.iaload, 1) := by decide +kernel
theorem dL_law_229 : decode cL_law 229 = .ok (.aload_n 0, 1) := by decide +kernel
theorem dL_law_230 : decode cL_law 230 = .ok (.iload 4, 2) := by decide +kernel
theorem dL_law_232 : decode cL_law 232 = .ok (.iconst 3, 1) := by decide +kernel
theorem dL_law_233 : decode cL_law 233 = .ok (.iadd, 1) := by decide +kernel
theorem dL_law_234 : decode cL_law 234 = .ok (.iaload, 1) := by decide +kernel
theorem dL_law_235 : decode cL_law 235 = .ok (.aload_n 0, 1) := by decide +kernel
theorem dL_law_236 : decode cL_law 236 = .ok (.iload 4, 2) := by decide +kernel
theorem dL_law_238 : decode cL_law 238 = .ok (.iconst 4, 1) := by decide +kernel
theorem dL_law_239 : decode cL_law 239 = .ok (.iadd, 1) := by decide +kernel
theorem dL_law_240 : decode cL_law 240 = .ok (.iaload, 1) := by decide +kernel
theorem dL_law_241 : decode cL_law 241 = .ok (.aload_n 0, 1) := by decide +kernel
theorem dL_law_242 : decode cL_law 242 = .ok (.iload 4, 2) := by decide +kernel
theorem dL_law_244 : decode cL_law 244 = .ok (.iconst 5, 1) := by decide +kernel
theorem dL_law_245 : decode cL_law 245 = .ok (.iadd, 1) := by decide +kernel
theorem dL_law_246 : decode cL_law 246 = .ok (.iaload, 1) := by decide +kernel
theorem dL_law_247 : decode cL_law 247 = .ok (.invokevirtual 21, 3) := by decide +kernel
theorem dL_law_250 : decode cL_law 250 = .ok (.aload_n 2, 1) := by decide +kernel
theorem dL_law_251 : decode cL_law 251 = .ok (.aload_n 0, 1) := by decide +kernel
theorem dL_law_252 : decode cL_law 252 = .ok (.iload 4, 2) := by decide +kernel
theorem dL_law_254 : decode cL_law 254 = .ok (.iconst 1, 1) := by decide +kernel
theorem dL_law_255 : decode cL_law 255 = .ok (.iadd, 1) := by decide +kernel
theorem dL_law_256 : decode cL_law 256 = .ok (.iaload, 1) := by decide +kernel
theorem dL_law_257 : decode cL_law 257 = .ok (.aload_n 0, 1) := by decide +kernel
theorem dL_law_258 : decode cL_law 258 = .ok (.iload 4, 2) := by decide +kernel
theorem dL_law_260 : decode cL_law 260 = .ok (.iconst 2, 1) := by decide +kernel
theorem dL_law_261 : decode cL_law 261 = .ok (.iadd, 1) := by decide +kernel
theorem dL_law_262 : decode cL_law 262 = .ok (.iaload, 1) := by decide +kernel
theorem dL_law_263 : decode cL_law 263 = .ok (.aload_n 0, 1) := by decide +kernel
theorem dL_law_264 : decode cL_law 264 = .ok (.iload 4, 2) := by decide +kernel
theorem dL_law_266 : decode cL_law 266 = .ok (.iconst 3, 1) := by decide +kernel
theorem dL_law_267 : decode cL_law 267 = .ok (.iadd, 1) := by decide +kernel
theorem dL_law_268 : decode cL_law 268 = .ok (.iaload, 1) := by decide +kernel
theorem dL_law_269 : decode cL_law 269 = .ok (.aload_n 0, 1) := by decide +kernel
theorem dL_law_270 : decode cL_law 270 = .ok (.iload 4, 2) := by decide +kernel
theorem dL_law_272 : decode cL_law 272 = .ok (.iconst 4, 1) := by decide +kernel
theorem dL_law_273 : decode cL_law 273 = .ok (.iadd, 1) := by decide +kernel
theorem dL_law_274 : decode cL_law 274 = .ok (.iaload, 1) := by decide +kernel
theorem dL_law_275 : decode cL_law 275 = .ok (.aload_n 0, 1) := by decide +kernel
theorem dL_law_276 : decode cL_law 276 = .ok (.iload 4, 2) := by decide +kernel
theorem dL_law_278 : decode cL_law 278 = .ok (.iconst 5, 1) := by decide +kernel
theorem dL_law_279 : decode cL_law 279 = .ok (.iadd, 1) := by decide +kernel
theorem dL_law_280 : decode cL_law 280 = .ok (.iaload, 1) := by decide +kernel
theorem dL_law_281 : decode cL_law 281 = .ok (.invokevirtual 25, 3) := by decide +kernel
theorem dL_law_284 : decode cL_law 284 = .ok (.if_icmp .eq 1416, 3) := by decide +kernel
theorem dL_law_287 : decode cL_law 287 = .ok (.iconst 0, 1) := by decide +kernel
theorem dL_law_288 : decode cL_law 288 = .ok (.ireturn, 1) := by decide +kernel
theorem dL_law_289 : decode cL_law 289 = .ok (.aload_n 1, 1) := by decide +kernel
theorem dL_law_290 : decode cL_law 290 = .ok (.aload_n 0, 1) := by decide +kernel
theorem dL_law_291 : decode cL_law 291 = .ok (.iload 4, 2) := by decide +kernel
theorem dL_law_293 : decode cL_law 293 = .ok (.iconst 1, 1) := by decide +kernel
theorem dL_law_294 : decode cL_law 294 = .ok (.iadd, 1) := by decide +kernel
theorem dL_law_295 : decode cL_law 295 = .ok (.iaload, 1) := by decide +kernel
theorem dL_law_296 : decode cL_law 296 = .ok (.invokevirtual 26, 3) := by decide +kernel
theorem dL_law_299 : decode cL_law 299 = .ok (.aload_n 2, 1) := by decide +kernel
theorem dL_law_300 : decode cL_law 300 = .ok (.aload_n 0, 1) := by decide +kernel
theorem dL_law_301 : decode cL_law 301 = .ok (.iload 4, 2) := by decide +kernel
theorem dL_law_303 : decode cL_law 303 = .ok (.iconst 1, 1) := by decide +kernel
theorem dL_law_304 : decode cL_law 304 = .ok (.iadd, 1) := by decide +kernel
theorem dL_law_305 : decode cL_law 305 = .ok (.iaload, 1) := by decide +kernel
theorem dL_law_306 : decode cL_law 306 = .ok (.invokevirtual 30, 3) := by decide +kernel
theorem dL_law_309 : decode cL_law 309 = .ok (.if_icmp .eq 1391, 3) := by decide +kernel
theorem dL_law_312 : decode cL_law 312 = .ok (.iconst 0, 1) := by decide +kernel
theorem dL_law_313 : decode cL_law 313 = .ok (.ireturn, 1) := by decide +kernel
theorem dL_law_314 : decode cL_law 314 = .ok (.aload_n 1, 1) := by decide +kernel
theorem dL_law_315 : decode cL_law 315 = .ok (.aload_n 0, 1) := by decide +kernel
theorem dL_law_316 : decode cL_law 316 = .ok (.iload 4, 2) := by decide +kernel
theorem dL_law_318 : decode cL_law 318 = .ok (.iconst 1, 1) := by decide +kernel
theorem dL_law_319 : decode cL_law 319 = .ok (.iadd, 1) := by decide +kernel
theorem dL_law_320 : decode cL_law 320 = .ok (.iaload, 1) := by decide +kernel
theorem dL_law_321 : decode cL_law 321 = .ok (.invokevirtual 31, 3) := by decide +kernel
theorem dL_law_324 : decode cL_law 324 = .ok (.aload_n 2, 1) := by decide +kernel
theorem dL_law_325 : decode cL_law 325 = .ok (.aload_n 0, 1) := by decide +kernel
theorem dL_law_326 : decode cL_law 326 = .ok (.iload 4, 2) := by decide +kernel
theorem dL_law_328 : decode cL_law 328 = .ok (.iconst 1, 1) := by decide +kernel
theorem dL_law_329 : decode cL_law 329 = .ok (.iadd, 1) := by decide +kernel
theorem dL_law_330 : decode cL_law 330 = .ok (.iaload, 1) := by decide +kernel
theorem dL_law_331 : decode cL_law 331 = .ok (.invokevirtual 34, 3) := by decide +kernel
theorem dL_law_334 : decode cL_law 334 = .ok (.if_icmp .eq 1366, 3) := by decide +kernel
theorem dL_law_337 : decode cL_law 337 = .ok (.iconst 0, 1) := by decide +kernel
theorem dL_law_338 : decode cL_law 338 = .ok (.ireturn, 1) := by decide +kernel
theorem dL_law_339 : decode cL_law 339 = .ok (.aload_n 1, 1) := by decide +kernel
theorem dL_law_340 : decode cL_law 340 = .ok (.aload_n 0, 1) := by decide +kernel
theorem dL_law_341 : decode cL_law 341 = .ok (.iload 4, 2) := by decide +kernel
theorem dL_law_343 : decode cL_law 343 = .ok (.iconst 1, 1) := by decide +kernel
theorem dL_law_344 : decode cL_law 344 = .ok (.iadd, 1) := by decide +kernel
theorem dL_law_345 : decode cL_law 345 = .ok (.iaload, 1) := by decide +kernel
theorem dL_law_346 : decode cL_law 346 = .ok (.aload_n 0, 1) := by decide +kernel
theorem dL_law_347 : decode cL_law 347 = .ok (.iload 4, 2) := by decide +kernel
