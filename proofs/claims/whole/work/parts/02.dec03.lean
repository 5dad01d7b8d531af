theorem dX5_status_44 : decode cX5_status 44 = .ok (.iadd, 1) := by decide +kernel
theorem dX5_status_45 : decode cX5_status 45 = .ok (.istore_n 2, 1) := by decide +kernel
theorem dX5_status_46 : decode cX5_status 46 = .ok (.iinc 3 1, 3) := by decide +kernel
theorem dX5_status_49 : decode cX5_status 49 = .ok (.goto (-18), 3) := by decide +kernel
theorem dX5_status_52 : decode cX5_status 52 = .ok (.iload_n 2, 1) := by decide +kernel
theorem dX5_status_53 : decode cX5_status 53 = .ok (.ireturn, 1) := by decide +kernel
theorem dX5_finding_0 : decode cX5_finding 0 = .ok (.iload_n 1, 1) := by decide +kernel
theorem dX5_finding_1 : decode cX5_finding 1 = .ok (.iconst 0, 1) := by decide +kernel
theorem dX5_finding_2 : decode cX5_finding 2 = .ok (.bipush 6, 2) := by decide +kernel
theorem dX5_finding_4 : decode cX5_finding 4 = .ok (.invokestatic 68, 3) := by decide +kernel
theorem dX5_finding_7 : decode cX5_finding 7 = .ok (.ifCond .eq 13, 3) := by decide +kernel
theorem dX5_finding_10 : decode cX5_finding 10 = .ok (.aload_n 0, 1) := by decide +kernel
theorem dX5_finding_11 : decode cX5_finding 11 = .ok (.getfield 42, 3) := by decide +kernel
theorem dX5_finding_14 : decode cX5_finding 14 = .ok (.iload_n 1, 1) := by decide +kernel
theorem dX5_finding_15 : decode cX5_finding 15 = .ok (.dup2, 1) := by decide +kernel
theorem dX5_finding_16 : decode cX5_finding 16 = .ok (.iaload, 1) := by decide +kernel
theorem dX5_finding_17 : decode cX5_finding 17 = .ok (.iconst 1, 1) := by decide +kernel
theorem dX5_finding_18 : decode cX5_finding 18 = .ok (.iadd, 1) := by decide +kernel
theorem dX5_finding_19 : decode cX5_finding 19 = .ok (.iastore, 1) := by decide +kernel
theorem dX5_finding_20 : decode cX5_finding 20 = .ok (.ldc_w 288, 3) := by decide +kernel
theorem dX5_finding_23 : decode cX5_finding 23 = .ok (.iload_n 1, 1) := by decide +kernel
theorem dX5_finding_24 : decode cX5_finding 24 = .ok (.isub, 1) := by decide +kernel
theorem dX5_finding_25 : decode cX5_finding 25 = .ok (.ireturn, 1) := by decide +kernel
theorem dX5_within_0 : decode cX5_within 0 = .ok (.iload_n 0, 1) := by decide +kernel
theorem dX5_within_1 : decode cX5_within 1 = .ok (.iload_n 1, 1) := by decide +kernel
theorem dX5_within_2 : decode cX5_within 2 = .ok (.if_icmp .lt 12, 3) := by decide +kernel
theorem dX5_within_5 : decode cX5_within 5 = .ok (.iload_n 0, 1) := by decide +kernel
theorem dX5_within_6 : decode cX5_within 6 = .ok (.iload_n 2, 1) := by decide +kernel
theorem dX5_within_7 : decode cX5_within 7 = .ok (.if_icmp .gt 7, 3) := by decide +kernel
theorem dX5_within_10 : decode cX5_within 10 = .ok (.iconst 1, 1) := by decide +kernel
theorem dX5_within_11 : decode cX5_within 11 = .ok (.goto 4, 3) := by decide +kernel
theorem dX5_within_14 : decode cX5_within 14 = .ok (.iconst 0, 1) := by decide +kernel
theorem dX5_within_15 : decode cX5_within 15 = .ok (.ireturn, 1) := by decide +kernel
theorem dX5_isCell_0 : decode cX5_isCell 0 = .ok (.iload_n 0, 1) := by decide +kernel
theorem dX5_isCell_1 : decode cX5_isCell 1 = .ok (.iconst 0, 1) := by decide +kernel
theorem dX5_isCell_2 : decode cX5_isCell 2 = .ok (.bipush 24, 2) := by decide +kernel
theorem dX5_isCell_4 : decode cX5_isCell 4 = .ok (.invokestatic 68, 3) := by decide +kernel
theorem dX5_isCell_7 : decode cX5_isCell 7 = .ok (.ireturn, 1) := by decide +kernel
theorem dX5_isPitch_0 : decode cX5_isPitch 0 = .ok (.iload_n 0, 1) := by decide +kernel
theorem dX5_isPitch_1 : decode cX5_isPitch 1 = .ok (.iconst 0, 1) := by decide +kernel
theorem dX5_isPitch_2 : decode cX5_isPitch 2 = .ok (.bipush 15, 2) := by decide +kernel
theorem dX5_isPitch_4 : decode cX5_isPitch 4 = .ok (.invokestatic 68, 3) := by decide +kernel
theorem dX5_isPitch_7 : decode cX5_isPitch 7 = .ok (.ireturn, 1) := by decide +kernel
theorem dX5_isKind_0 : decode cX5_isKind 0 = .ok (.iload_n 0, 1) := by decide +kernel
theorem dX5_isKind_1 : decode cX5_isKind 1 = .ok (.iconst 0, 1) := by decide +kernel
theorem dX5_isKind_2 : decode cX5_isKind 2 = .ok (.bipush 6, 2) := by decide +kernel
theorem dX5_isKind_4 : decode cX5_isKind 4 = .ok (.invokestatic 68, 3) := by decide +kernel
theorem dX5_isKind_7 : decode cX5_isKind 7 = .ok (.ireturn, 1) := by decide +kernel
theorem dX5_isSheet_0 : decode cX5_isSheet 0 = .ok (.iload_n 0, 1) := by decide +kernel
theorem dX5_isSheet_1 : decode cX5_isSheet 1 = .ok (.iconst 0, 1) := by decide +kernel
theorem dX5_isSheet_2 : decode cX5_isSheet 2 = .ok (.iconst 3, 1) := by decide +kernel
theorem dX5_isSheet_3 : decode cX5_isSheet 3 = .ok (.invokestatic 68, 3) := by decide +kernel
theorem dX5_isSheet_6 : decode cX5_isSheet 6 = .ok (.ireturn, 1) := by decide +kernel
theorem dX5_isMeasure_0 : decode cX5_isMeasure 0 = .ok (.iload_n 0, 1) := by decide +kernel
theorem dX5_isMeasure_1 : decode cX5_isMeasure 1 = .ok (.iconst 0, 1) := by decide +kernel
theorem dX5_isMeasure_2 : decode cX5_isMeasure 2 = .ok (.bipush 99, 2) := by decide +kernel
theorem dX5_isMeasure_4 : decode cX5_isMeasure 4 = .ok (.invokestatic 68, 3) := by decide +kernel
theorem dX5_isMeasure_7 : decode cX5_isMeasure 7 = .ok (.ireturn, 1) := by decide +kernel
theorem dX5_isTent_0 : decode cX5_isTent 0 = .ok (.iload_n 1, 1) := by decide +kernel
theorem dX5_isTent_1 : decode cX5_isTent 1 = .ok (.iconst 0, 1) := by decide +kernel
theorem dX5_isTent_2 : decode cX5_isTent 2 = .ok (.aload_n 0, 1) := by decide +kernel
theorem dX5_isTent_3 : decode cX5_isTent 3 = .ok (.getfield 10, 3) := by decide +kernel
theorem dX5_isTent_6 : decode cX5_isTent 6 = .ok (.getfield 88, 3) := by decide +kernel
theorem dX5_isTent_9 : decode cX5_isTent 9 = .ok (.iconst 1, 1) := by decide +kernel
theorem dX5_isTent_10 : decode cX5_isTent 10 = .ok (.isub, 1) := by decide +kernel
theorem dX5_isTent_11 : decode cX5_isTent 11 = .ok (.invokestatic 68, 3) := by decide +kernel
theorem dX5_isTent_14 : decode cX5_isTent 14 = .ok (.ireturn, 1) := by decide +kernel
theorem dX5_lackOf_0 : decode cX5_lackOf 0 = .ok (.iload_n 1, 1) := by decide +kernel
theorem dX5_lackOf_1 : decode cX5_lackOf 1 = .ok (.invokestatic 249, 3) := by decide +kernel
theorem dX5_lackOf_4 : decode cX5_lackOf 4 = .ok (.ifCond .ne 5, 3) := by decide +kernel
theorem dX5_lackOf_7 : decode cX5_lackOf 7 = .ok (.iconst 0, 1) := by decide +kernel
theorem dX5_lackOf_8 : decode cX5_lackOf 8 = .ok (.ireturn, 1) := by decide +kernel
theorem dX5_lackOf_9 : decode cX5_lackOf 9 = .ok (.aload_n 0, 1) := by decide +kernel
theorem dX5_lackOf_10 : decode cX5_lackOf 10 = .ok (.getfield 38, 3) := by decide +kernel
theorem dX5_lackOf_13 : decode cX5_lackOf 13 = .ok (.iload_n 1, 1) := by decide +kernel
theorem dX5_lackOf_14 : decode cX5_lackOf 14 = .ok (.aaload, 1) := by decide +kernel
theorem dX5_lackOf_15 : decode cX5_lackOf 15 = .ok (.invokevirtual 259, 3) := by decide +kernel
theorem dX5_lackOf_18 : decode cX5_lackOf 18 = .ok (.ifCond .eq 7, 3) := by decide +kernel
theorem dX5_lackOf_21 : decode cX5_lackOf 21 = .ok (.iconst 5, 1) := by decide +kernel
theorem dX5_lackOf_22 : decode cX5_lackOf 22 = .ok (.goto 4, 3) := by decide +kernel
theorem dX5_lackOf_25 : decode cX5_lackOf 25 = .ok (.iconst (-1), 1) := by decide +kernel
theorem dX5_lackOf_26 : decode cX5_lackOf 26 = .ok (.ireturn, 1) := by decide +kernel
theorem dX5_supposeAlone_0 : decode cX5_supposeAlone 0 = .ok (.aload_n 0, 1) := by decide +kernel
theorem dX5_supposeAlone_1 : decode cX5_supposeAlone 1 = .ok (.getfield 19, 3) := by decide +kernel
theorem dX5_supposeAlone_4 : decode cX5_supposeAlone 4 = .ok (.aload_n 0, 1) := by decide +kernel
theorem dX5_supposeAlone_5 : decode cX5_supposeAlone 5 = .ok (.getfield 10, 3) := by decide +kernel
theorem dX5_supposeAlone_8 : decode cX5_supposeAlone 8 = .ok (.invokevirtual 159, 3) := by decide +kernel
theorem dX5_supposeAlone_11 : decode cX5_supposeAlone 11 = .ok (.aload_n 0, 1) := by decide +kernel
theorem dX5_supposeAlone_12 : decode cX5_supposeAlone 12 = .ok (.getfield 19, 3) := by decide +kernel
theorem dX5_supposeAlone_15 : decode cX5_supposeAlone 15 = .ok (.iload_n 1, 1) := by decide +kernel
theorem dX5_supposeAlone_16 : decode cX5_supposeAlone 16 = .ok (.iload_n 2, 1) := by decide +kernel
theorem dX5_supposeAlone_17 : decode cX5_supposeAlone 17 = .ok (.invokevirtual 289, 3) := by decide +kernel
theorem dX5_supposeAlone_20 : decode cX5_supposeAlone 20 = .ok (.return_, 1) := by decide +kernel
theorem dX5_sumAfterBoth_0 : decode cX5_sumAfterBoth 0 = .ok (.aload_n 0, 1) := by decide +kernel
theorem dX5_sumAfterBoth_1 : decode cX5_sumAfterBoth 1 = .ok (.iload_n 1, 1) := by decide +kernel
theorem dX5_sumAfterBoth_2 : decode cX5_sumAfterBoth 2 = .ok (.iload_n 3, 1) := by decide +kernel
theorem dX5_sumAfterBoth_3 : decode cX5_sumAfterBoth 3 = .ok (.invokevirtual 204, 3) := by decide +kernel
theorem dX5_sumAfterBoth_6 : decode cX5_sumAfterBoth 6 = .ok (.aload_n 0, 1) := by decide +kernel
theorem dX5_sumAfterBoth_7 : decode cX5_sumAfterBoth 7 = .ok (.getfield 19, 3) := by decide +kernel
theorem dX5_sumAfterBoth_10 : decode cX5_sumAfterBoth 10 = .ok (.invokevirtual 166, 3) := by decide +kernel
theorem dX5_sumAfterBoth_13 : decode cX5_sumAfterBoth 13 = .ok (.aload_n 0, 1) := by decide +kernel
theorem dX5_sumAfterBoth_14 : decode cX5_sumAfterBoth 14 = .ok (.getfield 19, 3) := by decide +kernel
theorem dX5_sumAfterBoth_17 : decode cX5_sumAfterBoth 17 = .ok (.iload_n 2, 1) := by decide +kernel
theorem dX5_sumAfterBoth_18 : decode cX5_sumAfterBoth 18 = .ok (.iload_n 3, 1) := by decide +kernel
theorem dX5_sumAfterBoth_19 : decode cX5_sumAfterBoth 19 = .ok (.invokevirtual 289, 3) := by decide +kernel
theorem dX5_sumAfterBoth_22 : decode cX5_sumAfterBoth 22 = .ok (.aload_n 0, 1) := by decide +kernel
theorem dX5_sumAfterBoth_23 : decode cX5_sumAfterBoth 23 = .ok (.getfield 19, 3) := by decide +kernel
theorem dX5_sumAfterBoth_26 : decode cX5_sumAfterBoth 26 = .ok (.invokevirtual 166, 3) := by decide +kernel
theorem dX5_sumAfterBoth_29 : decode cX5_sumAfterBoth 29 = .ok (.aload_n 0, 1) := by decide +kernel
theorem dX5_sumAfterBoth_30 : decode cX5_sumAfterBoth 30 = .ok (.getfield 19, 3) := by decide +kernel
theorem dX5_sumAfterBoth_33 : decode cX5_sumAfterBoth 33 = .ok (.invokevirtual 126, 3) := by decide +kernel
theorem dX5_sumAfterBoth_36 : decode cX5_sumAfterBoth 36 = .ok (.ireturn, 1) := by decide +kernel
theorem dX5_power_0 : decode cX5_power 0 = .ok (.lconst 1, 1) := by decide +kernel
theorem dX5_power_1 : decode cX5_power 1 = .ok (.lstore_n 3, 1) := by decide +kernel
theorem dX5_power_2 : decode cX5_power 2 = .ok (.iconst 0, 1) := by decide +kernel
theorem dX5_power_3 : decode cX5_power 3 = .ok (.istore 5, 2) := by decide +kernel
theorem dX5_power_5 : decode cX5_power 5 = .ok (.iload 5, 2) := by decide +kernel
theorem dX5_power_7 : decode cX5_power 7 = .ok (.iload_n 2, 1) := by decide +kernel
theorem dX5_power_8 : decode cX5_power 8 = .ok (.if_icmp .ge 13, 3) := by decide +kernel
theorem dX5_power_11 : decode cX5_power 11 = .ok (.lload_n 3, 1) := by decide +kernel
theorem dX5_power_12 : decode cX5_power 12 = .ok (.lload_n 0, 1) := by decide +kernel
theorem dX5_power_13 : decode cX5_power 13 = .ok (.lmul, 1) := by decide +kernel
theorem dX5_power_14 : decode cX5_power 14 = .ok (.lstore_n 3, 1) := by decide +kernel
theorem dX5_power_15 : decode cX5_power 15 = .ok (.iinc 5 1, 3) := by decide +kernel
theorem dX5_power_18 : decode cX5_power 18 = .ok (.goto (-13), 3) := by decide +kernel
theorem dX5_power_21 : decode cX5_power 21 = .ok (.lload_n 3, 1) := by decide +kernel
theorem dX5_power_22 : decode cX5_power 22 = .ok (.lreturn, 1) := by decide +kernel
theorem dX5_cellUnder_0 : decode cX5_cellUnder 0 = .ok (.iconst 5, 1) := by decide +kernel
theorem dX5_cellUnder_1 : decode cX5_cellUnder 1 = .ok (.iload_n 0, 1) := by decide +kernel
theorem dX5_cellUnder_2 : decode cX5_cellUnder 2 = .ok (.iconst 4, 1) := by decide +kernel
theorem dX5_cellUnder_3 : decode cX5_cellUnder 3 = .ok (.idiv, 1) := by decide +kernel
theorem dX5_cellUnder_4 : decode cX5_cellUnder 4 = .ok (.iload_n 1, 1) := by decide +kernel
theorem dX5_cellUnder_5 : decode cX5_cellUnder 5 = .ok (.iconst 2, 1) := by decide +kernel
theorem dX5_cellUnder_6 : decode cX5_cellUnder 6 = .ok (.idiv, 1) := by decide +kernel
theorem dX5_cellUnder_7 : decode cX5_cellUnder 7 = .ok (.iadd, 1) := by decide +kernel
theorem dX5_cellUnder_8 : decode cX5_cellUnder 8 = .ok (.imul, 1) := by decide +kernel
theorem dX5_cellUnder_9 : decode cX5_cellUnder 9 = .ok (.iload_n 0, 1) := by decide +kernel
theorem dX5_cellUnder_10 : decode cX5_cellUnder 10 = .ok (.iconst 4, 1) := by decide +kernel
theorem dX5_cellUnder_11 : decode cX5_cellUnder 11 = .ok (.irem, 1) := by decide +kernel
theorem dX5_cellUnder_12 : decode cX5_cellUnder 12 = .ok (.iadd, 1) := by decide +kernel
theorem dX5_cellUnder_13 : decode cX5_cellUnder 13 = .ok (.iload_n 1, 1) := by decide +kernel
theorem dX5_cellUnder_14 : decode cX5_cellUnder 14 = .ok (.iconst 2, 1) := by decide +kernel
theorem dX5_cellUnder_15 : decode cX5_cellUnder 15 = .ok (.irem, 1) := by decide +kernel
theorem dX5_cellUnder_16 : decode cX5_cellUnder 16 = .ok (.iadd, 1) := by decide +kernel
theorem dX5_cellUnder_17 : decode cX5_cellUnder 17 = .ok (.ireturn, 1) := by decide +kernel
theorem dX5_neighbour_0 : decode cX5_neighbour 0 = .ok (.iload_n 0, 1) := by decide +kernel
theorem dX5_neighbour_1 : decode cX5_neighbour 1 = .ok (.iconst 5, 1) := by decide +kernel
theorem dX5_neighbour_2 : decode cX5_neighbour 2 = .ok (.idiv, 1) := by decide +kernel
theorem dX5_neighbour_3 : decode cX5_neighbour 3 = .ok (.istore_n 2, 1) := by decide +kernel
theorem dX5_neighbour_4 : decode cX5_neighbour 4 = .ok (.iload_n 0, 1) := by decide +kernel
theorem dX5_neighbour_5 : decode cX5_neighbour 5 = .ok (.iconst 5, 1) := by decide +kernel
theorem dX5_neighbour_6 : decode cX5_neighbour 6 = .ok (.irem, 1) := by decide +kernel
theorem dX5_neighbour_7 : decode cX5_neighbour 7 = .ok (.istore_n 3, 1) := by decide +kernel
theorem dX5_neighbour_8 : decode cX5_neighbour 8 = .ok (.iload_n 1, 1) := by decide +kernel
theorem dX5_neighbour_9 : decode cX5_neighbour 9 = .ok (.tableswitch 81 0 3 #[31, 43, 55, 68], 31) := by decide +kernel
theorem dX5_neighbour_40 : decode cX5_neighbour 40 = .ok (.iload_n 2, 1) := by decide +kernel
theorem dX5_neighbour_41 : decode cX5_neighbour 41 = .ok (.ifCond .le 9, 3) := by decide +kernel
theorem dX5_neighbour_44 : decode cX5_neighbour 44 = .ok (.iload_n 0, 1) := by decide +kernel
theorem dX5_neighbour_45 : decode cX5_neighbour 45 = .ok (.iconst 5, 1) := by decide +kernel
theorem dX5_neighbour_46 : decode cX5_neighbour 46 = .ok (.isub, 1) := by decide +kernel
theorem dX5_neighbour_47 : decode cX5_neighbour 47 = .ok (.goto 4, 3) := by decide +kernel
theorem dX5_neighbour_50 : decode cX5_neighbour 50 = .ok (.iconst (-1), 1) := by decide +kernel
theorem dX5_neighbour_51 : decode cX5_neighbour 51 = .ok (.ireturn, 1) := by decide +kernel
theorem dX5_neighbour_52 : decode cX5_neighbour 52 = .ok (.iload_n 3, 1) := by decide +kernel
theorem dX5_neighbour_53 : decode cX5_neighbour 53 = .ok (.ifCond .le 9, 3) := by decide +kernel
theorem dX5_neighbour_56 : decode cX5_neighbour 56 = .ok (.iload_n 0, 1) := by decide +kernel
theorem dX5_neighbour_57 : decode cX5_neighbour 57 = .ok (.iconst 1, 1) := by decide +kernel
theorem dX5_neighbour_58 : decode cX5_neighbour 58 = .ok (.isub, 1) := by decide +kernel
theorem dX5_neighbour_59 : decode cX5_neighbour 59 = .ok (.goto 4, 3) := by decide +kernel
theorem dX5_neighbour_62 : decode cX5_neighbour 62 = .ok (.iconst (-1), 1) := by decide +kernel
theorem dX5_neighbour_63 : decode cX5_neighbour 63 = .ok (.ireturn, 1) := by decide +kernel
theorem dX5_neighbour_64 : decode cX5_neighbour 64 = .ok (.iload_n 3, 1) := by decide +kernel
theorem dX5_neighbour_65 : decode cX5_neighbour 65 = .ok (.iconst 4, 1) := by decide +kernel
theorem dX5_neighbour_66 : decode cX5_neighbour 66 = .ok (.if_icmp .ge 9, 3) := by decide +kernel
theorem dX5_neighbour_69 : decode cX5_neighbour 69 = .ok (.iload_n 0, 1) := by decide +kernel
theorem dX5_neighbour_70 : decode cX5_neighbour 70 = .ok (.iconst 1, 1) := by decide +kernel
theorem dX5_neighbour_71 : decode cX5_neighbour 71 = .ok (.iadd, 1) := by decide +kernel
theorem dX5_neighbour_72 : decode cX5_neighbour 72 = .ok (.goto 4, 3) := by decide +kernel
theorem dX5_neighbour_75 : decode cX5_neighbour 75 = .ok (.iconst (-1), 1) := by decide +kernel
theorem dX5_neighbour_76 : decode cX5_neighbour 76 = .ok (.ireturn, 1) := by decide +kernel
theorem dX5_neighbour_77 : decode cX5_neighbour 77 = .ok (.iload_n 2, 1) := by decide +kernel
theorem dX5_neighbour_78 : decode cX5_neighbour 78 = .ok (.iconst 4, 1) := by decide +kernel
theorem dX5_neighbour_79 : decode cX5_neighbour 79 = .ok (.if_icmp .ge 9, 3) := by decide +kernel
theorem dX5_neighbour_82 : decode cX5_neighbour 82 = .ok (.iload_n 0, 1) := by decide +kernel
theorem dX5_neighbour_83 : decode cX5_neighbour 83 = .ok (.iconst 5, 1) := by decide +kernel
theorem dX5_neighbour_84 : decode cX5_neighbour 84 = .ok (.iadd, 1) := by decide +kernel
theorem dX5_neighbour_85 : decode cX5_neighbour 85 = .ok (.goto 4, 3) := by decide +kernel
theorem dX5_neighbour_88 : decode cX5_neighbour 88 = .ok (.iconst (-1), 1) := by decide +kernel
theorem dX5_neighbour_89 : decode cX5_neighbour 89 = .ok (.ireturn, 1) := by decide +kernel
theorem dX5_neighbour_90 : decode cX5_neighbour 90 = .ok (.iconst (-1), 1) := by decide +kernel
theorem dX5_neighbour_91 : decode cX5_neighbour 91 = .ok (.ireturn, 1) := by decide +kernel
theorem dX6_init_0 : decode cX6_init 0 = .ok (.aload_n 0, 1) := by decide +kernel
theorem dX6_init_1 : decode cX6_init 1 = .ok (.invokespecial 3, 3) := by decide +kernel
theorem dX6_init_4 : decode cX6_init 4 = .ok (.aload_n 0, 1) := by decide +kernel
theorem dX6_init_5 : decode cX6_init 5 = .ok (.bipush 87, 2) := by decide +kernel
theorem dX6_init_7 : decode cX6_init 7 = .ok (.newarray .int, 2) := by decide +kernel
theorem dX6_init_9 : decode cX6_init 9 = .ok (.putfield 9, 3) := by decide +kernel
theorem dX6_init_12 : decode cX6_init 12 = .ok (.aload_n 0, 1) := by decide +kernel
theorem dX6_init_13 : decode cX6_init 13 = .ok (.bipush 87, 2) := by decide +kernel
theorem dX6_init_15 : decode cX6_init 15 = .ok (.newarray .int, 2) := by decide +kernel
theorem dX6_init_17 : decode cX6_init 17 = .ok (.putfield 13, 3) := by decide +kernel
theorem dX6_init_20 : decode cX6_init 20 = .ok (.aload_n 0, 1) := by decide +kernel
theorem dX6_init_21 : decode cX6_init 21 = .ok (.bipush 87, 2) := by decide +kernel
theorem dX6_init_23 : decode cX6_init 23 = .ok (.newarray .int, 2) := by decide +kernel
theorem dX6_init_25 : decode cX6_init 25 = .ok (.putfield 16, 3) := by decide +kernel
theorem dX6_init_28 : decode cX6_init 28 = .ok (.aload_n 0, 1) := by decide +kernel
theorem dX6_init_29 : decode cX6_init 29 = .ok (.bipush 7, 2) := by decide +kernel
theorem dX6_init_31 : decode cX6_init 31 = .ok (.newarray .int, 2) := by decide +kernel
theorem dX6_init_33 : decode cX6_init 33 = .ok (.putfield 19, 3) := by decide +kernel
theorem dX6_init_36 : decode cX6_init 36 = .ok (.aload_n 0, 1) := by decide +kernel
theorem dX6_init_37 : decode cX6_init 37 = .ok (.bipush 25, 2) := by decide +kernel
theorem dX6_init_39 : decode cX6_init 39 = .ok (.newarray .int, 2) := by decide +kernel
theorem dX6_init_41 : decode cX6_init 41 = .ok (.putfield 22, 3) := by decide +kernel
theorem dX6_init_44 : decode cX6_init 44 = .ok (.aload_n 0, 1) := by decide +kernel
theorem dX6_init_45 : decode cX6_init 45 = .ok (.bipush 25, 2) := by decide +kernel
theorem dX6_init_47 : decode cX6_init 47 = .ok (.newarray .int, 2) := by decide +kernel
theorem dX6_init_49 : decode cX6_init 49 = .ok (.putfield 25, 3) := by decide +kernel
theorem dX6_init_52 : decode cX6_init 52 = .ok (.aload_n 0, 1) := by decide +kernel
theorem dX6_init_53 : decode cX6_init 53 = .ok (.bipush 120, 2) := by decide +kernel
theorem dX6_init_55 : decode cX6_init 55 = .ok (.newarray .int, 2) := by decide +kernel
theorem dX6_init_57 : decode cX6_init 57 = .ok (.putfield 28, 3) := by decide +kernel
theorem dX6_init_60 : decode cX6_init 60 = .ok (.aload_n 0, 1) := by decide +kernel
theorem dX6_init_61 : decode cX6_init 61 = .ok (.iconst 4, 1) := by decide +kernel
theorem dX6_init_62 : decode cX6_init 62 = .ok (.newarray .int, 2) := by decide +kernel
theorem dX6_init_64 : decode cX6_init 64 = .ok (.putfield 31, 3) := by decide +kernel
theorem dX6_init_67 : decode cX6_init 67 = .ok (.aload_n 0, 1) := by decide +kernel
theorem dX6_init_68 : decode cX6_init 68 = .ok (.iconst 4, 1) := by decide +kernel
theorem dX6_init_69 : decode cX6_init 69 = .ok (.newarray .int, 2) := by decide +kernel
theorem dX6_init_71 : decode cX6_init 71 = .ok (.putfield 34, 3) := by decide +kernel
theorem dX6_init_74 : decode cX6_init 74 = .ok (.aload_n 0, 1) := by decide +kernel
theorem dX6_init_75 : decode cX6_init 75 = .ok (.sipush 160, 3) := by decide +kernel
theorem dX6_init_78 : decode cX6_init 78 = .ok (.newarray .int, 2) := by decide +kernel
theorem dX6_init_80 : decode cX6_init 80 = .ok (.putfield 37, 3) := by decide +kernel
theorem dX6_init_83 : decode cX6_init 83 = .ok (.aload_n 0, 1) := by decide +kernel
theorem dX6_init_84 : decode cX6_init 84 = .ok (.bipush 40, 2) := by decide +kernel
theorem dX6_init_86 : decode cX6_init 86 = .ok (.newarray .int, 2) := by decide +kernel
theorem dX6_init_88 : decode cX6_init 88 = .ok (.putfield 40, 3) := by decide +kernel
theorem dX6_init_91 : decode cX6_init 91 = .ok (.aload_n 0, 1) := by decide +kernel
theorem dX6_init_92 : decode cX6_init 92 = .ok (.getfield 9, 3) := by decide +kernel
theorem dX6_init_95 : decode cX6_init 95 = .ok (.iconst 1, 1) := by decide +kernel
theorem dX6_init_96 : decode cX6_init 96 = .ok (.iconst 1, 1) := by decide +kernel
theorem dX6_init_97 : decode cX6_init 97 = .ok (.iastore, 1) := by decide +kernel
theorem dX6_init_98 : decode cX6_init 98 = .ok (.iconst 0, 1) := by decide +kernel
theorem dX6_init_99 : decode cX6_init 99 = .ok (.istore_n 1, 1) := by decide +kernel
theorem dX6_init_100 : decode cX6_init 100 = .ok (.iload_n 1, 1) := by decide +kernel
theorem dX6_init_101 : decode cX6_init 101 = .ok (.bipush 25, 2) := by decide +kernel
theorem dX6_init_103 : decode cX6_init 103 = .ok (.if_icmp .ge 19, 3) := by decide +kernel
theorem dX6_init_106 : decode cX6_init 106 = .ok (.aload_n 0, 1) := by decide +kernel
theorem dX6_init_107 : decode cX6_init 107 = .ok (.getfield 9, 3) := by decide +kernel
theorem dX6_init_110 : decode cX6_init 110 = .ok (.iconst 4, 1) := by decide +kernel
theorem dX6_init_111 : decode cX6_init 111 = .ok (.iload_n 1, 1) := by decide +kernel
theorem dX6_init_112 : decode cX6_init 112 = .ok (.iadd, 1) := by decide +kernel
theorem dX6_init_113 : decode cX6_init 113 = .ok (.bipush 50, 2) := by decide +kernel
theorem dX6_init_115 : decode cX6_init 115 = .ok (.iastore, 1) := by decide +kernel
theorem dX6_init_116 : decode cX6_init 116 = .ok (.iinc 1 1, 3) := by decide +kernel
theorem dX6_init_119 : decode cX6_init 119 = .ok (.goto (-19), 3) := by decide +kernel
theorem dX6_init_122 : decode cX6_init 122 = .ok (.iconst 0, 1) := by decide +kernel
theorem dX6_init_123 : decode cX6_init 123 = .ok (.istore_n 1, 1) := by decide +kernel
theorem dX6_init_124 : decode cX6_init 124 = .ok (.iload_n 1, 1) := by decide +kernel
theorem dX6_init_125 : decode cX6_init 125 = .ok (.bipush 10, 2) := by decide +kernel
theorem dX6_init_127 : decode cX6_init 127 = .ok (.if_icmp .ge 19, 3) := by decide +kernel
theorem dX6_init_130 : decode cX6_init 130 = .ok (.aload_n 0, 1) := by decide +kernel
theorem dX6_init_131 : decode cX6_init 131 = .ok (.getfield 9, 3) := by decide +kernel
theorem dX6_init_134 : decode cX6_init 134 = .ok (.bipush 77, 2) := by decide +kernel
theorem dX6_init_136 : decode cX6_init 136 = .ok (.iload_n 1, 1) := by decide +kernel
theorem dX6_init_137 : decode cX6_init 137 = .ok (.iadd, 1) := by decide +kernel
theorem dX6_init_138 : decode cX6_init 138 = .ok (.iconst (-1), 1) := by decide +kernel
theorem dX6_init_139 : decode cX6_init 139 = .ok (.iastore, 1) := by decide +kernel
theorem dX6_init_140 : decode cX6_init 140 = .ok (.iinc 1 1, 3) := by decide +kernel
theorem dX6_init_143 : decode cX6_init 143 = .ok (.goto (-19), 3) := by decide +kernel
theorem dX6_init_146 : decode cX6_init 146 = .ok (.return_, 1) := by decide +kernel
theorem dX6_finds_0 : decode cX6_finds 0 = .ok (.aload_n 0, 1) := by decide +kernel
theorem dX6_finds_1 : decode cX6_finds 1 = .ok (.getfield 19, 3) := by decide +kernel
theorem dX6_finds_4 : decode cX6_finds 4 = .ok (.iload_n 1, 1) := by decide +kernel
theorem dX6_finds_5 : decode cX6_finds 5 = .ok (.dup2, 1) := by decide +kernel
theorem dX6_finds_6 : decode cX6_finds 6 = .ok (.iaload, 1) := by decide +kernel
theorem dX6_finds_7 : decode cX6_finds 7 = .ok (.iconst 1, 1) := by decide +kernel
theorem dX6_finds_8 : decode cX6_finds 8 = .ok (.iadd, 1) := by decide +kernel
theorem dX6_finds_9 : decode cX6_finds 9 = .ok (.iastore, 1) := by decide +kernel
theorem dX6_finds_10 : decode cX6_finds 10 = .ok (.ldc 43, 2) := by decide +kernel
theorem dX6_finds_12 : decode cX6_finds 12 = .ok (.iload_n 1, 1) := by decide +kernel
theorem dX6_finds_13 : decode cX6_finds 13 = .ok (.isub, 1) := by decide +kernel
theorem dX6_finds_14 : decode cX6_finds 14 = .ok (.ireturn, 1) := by decide +kernel
theorem dX6_in_0 : decode cX6_in 0 = .ok (.lload_n 0, 1) := by decide +kernel
theorem dX6_in_1 : decode cX6_in 1 = .ok (.lload_n 2, 1) := by decide +kernel
theorem dX6_in_2 : decode cX6_in 2 = .ok (.lcmp, 1) := by decide +kernel
theorem dX6_in_3 : decode cX6_in 3 = .ok (.ifCond .lt 14, 3) := by decide +kernel
theorem dX6_in_6 : decode cX6_in 6 = .ok (.lload_n 0, 1) := by decide +kernel
theorem dX6_in_7 : decode cX6_in 7 = .ok (.lload 4, 2) := by decide +kernel
theorem dX6_in_9 : decode cX6_in 9 = .ok (.lcmp, 1) := by decide +kernel
theorem dX6_in_10 : decode cX6_in 10 = .ok (.ifCond .gt 7, 3) := by decide +kernel
theorem dX6_in_13 : decode cX6_in 13 = .ok (.iconst 1, 1) := by decide +kernel
theorem dX6_in_14 : decode cX6_in 14 = .ok (.goto 4, 3) := by decide +kernel
theorem dX6_in_17 : decode cX6_in 17 = .ok (.iconst 0, 1) := by decide +kernel
theorem dX6_in_18 : decode cX6_in 18 = .ok (.ireturn, 1) := by decide +kernel
theorem dX6_become_0 : decode cX6_become 0 = .ok (.iconst 0, 1) := by decide +kernel
theorem dX6_become_1 : decode cX6_become 1 = .ok (.istore_n 2, 1) := by decide +kernel
theorem dX6_become_2 : decode cX6_become 2 = .ok (.iload_n 2, 1) := by decide +kernel
theorem dX6_become_3 : decode cX6_become 3 = .ok (.bipush 87, 2) := by decide +kernel
theorem dX6_become_5 : decode cX6_become 5 = .ok (.if_icmp .ge 15, 3) := by decide +kernel
theorem dX6_become_8 : decode cX6_become 8 = .ok (.aload_n 1, 1) := by decide +kernel
theorem dX6_become_9 : decode cX6_become 9 = .ok (.iload_n 2, 1) := by decide +kernel
theorem dX6_become_10 : decode cX6_become 10 = .ok (.aload_n 0, 1) := by decide +kernel
theorem dX6_become_11 : decode cX6_become 11 = .ok (.iload_n 2, 1) := by decide +kernel
theorem dX6_become_12 : decode cX6_become 12 = .ok (.iaload, 1) := by decide +kernel
theorem dX6_become_13 : decode cX6_become 13 = .ok (.iastore, 1) := by decide +kernel
theorem dX6_become_14 : decode cX6_become 14 = .ok (.iinc 2 1, 3) := by decide +kernel
theorem dX6_become_17 : decode cX6_become 17 = .ok (.goto (-15), 3) := by decide +kernel
theorem dX6_become_20 : decode cX6_become 20 = .ok (.return_, 1) := by decide +kernel
theorem dX6_lends_0 : decode cX6_lends 0 = .ok (.aload_n 0, 1) := by decide +kernel
theorem dX6_lends_1 : decode cX6_lends 1 = .ok (.getfield 9, 3) := by decide +kernel
theorem dX6_lends_4 : decode cX6_lends 4 = .ok (.aload_n 0, 1) := by decide +kernel
theorem dX6_lends_5 : decode cX6_lends 5 = .ok (.getfield 16, 3) := by decide +kernel
theorem dX6_lends_8 : decode cX6_lends 8 = .ok (.invokestatic 44, 3) := by decide +kernel
theorem dX6_lends_11 : decode cX6_lends 11 = .ok (.return_, 1) := by decide +kernel
theorem dX6_laysBack_0 : decode cX6_laysBack 0 = .ok (.aload_n 0, 1) := by decide +kernel
theorem dX6_laysBack_1 : decode cX6_laysBack 1 = .ok (.getfield 16, 3) := by decide +kernel
theorem dX6_laysBack_4 : decode cX6_laysBack 4 = .ok (.aload_n 0, 1) := by decide +kernel
theorem dX6_laysBack_5 : decode cX6_laysBack 5 = .ok (.getfield 9, 3) := by decide +kernel
theorem dX6_laysBack_8 : decode cX6_laysBack 8 = .ok (.invokestatic 44, 3) := by decide +kernel
theorem dX6_laysBack_11 : decode cX6_laysBack 11 = .ok (.return_, 1) := by decide +kernel
theorem dX6_isTent_0 : decode cX6_isTent 0 = .ok (.iload_n 1, 1) := by decide +kernel
theorem dX6_isTent_1 : decode cX6_isTent 1 = .ok (.i2l, 1) := by decide +kernel
theorem dX6_isTent_2 : decode cX6_isTent 2 = .ok (.lconst 0, 1) := by decide +kernel
theorem dX6_isTent_3 : decode cX6_isTent 3 = .ok (.aload_n 0, 1) := by decide +kernel
theorem dX6_isTent_4 : decode cX6_isTent 4 = .ok (.getfield 9, 3) := by decide +kernel
theorem dX6_isTent_7 : decode cX6_isTent 7 = .ok (.iconst 2, 1) := by decide +kernel
theorem dX6_isTent_8 : decode cX6_isTent 8 = .ok (.iaload, 1) := by decide +kernel
theorem dX6_isTent_9 : decode cX6_isTent 9 = .ok (.iconst 1, 1) := by decide +kernel
theorem dX6_isTent_10 : decode cX6_isTent 10 = .ok (.isub, 1) := by decide +kernel
theorem dX6_isTent_11 : decode cX6_isTent 11 = .ok (.i2l, 1) := by decide +kernel
theorem dX6_isTent_12 : decode cX6_isTent 12 = .ok (.invokestatic 48, 3) := by decide +kernel
theorem dX6_isTent_15 : decode cX6_isTent 15 = .ok (.ireturn, 1) := by decide +kernel
theorem dX6_isCell_0 : decode cX6_isCell 0 = .ok (.iload_n 0, 1) := by decide +kernel
theorem dX6_isCell_1 : decode cX6_isCell 1 = .ok (.i2l, 1) := by decide +kernel
theorem dX6_isCell_2 : decode cX6_isCell 2 = .ok (.lconst 0, 1) := by decide +kernel
theorem dX6_isCell_3 : decode cX6_isCell 3 = .ok (.ldc2_w 52, 3) := by decide +kernel
theorem dX6_isCell_6 : decode cX6_isCell 6 = .ok (.invokestatic 48, 3) := by decide +kernel
theorem dX6_isCell_9 : decode cX6_isCell 9 = .ok (.ireturn, 1) := by decide +kernel
theorem dX6_isPitch_0 : decode cX6_isPitch 0 = .ok (.iload_n 0, 1) := by decide +kernel
theorem dX6_isPitch_1 : decode cX6_isPitch 1 = .ok (.i2l, 1) := by decide +kernel
theorem dX6_isPitch_2 : decode cX6_isPitch 2 = .ok (.lconst 0, 1) := by decide +kernel
theorem dX6_isPitch_3 : decode cX6_isPitch 3 = .ok (.ldc2_w 54, 3) := by decide +kernel
theorem dX6_isPitch_6 : decode cX6_isPitch 6 = .ok (.invokestatic 48, 3) := by decide +kernel
theorem dX6_isPitch_9 : decode cX6_isPitch 9 = .ok (.ireturn, 1) := by decide +kernel
theorem dX6_isHigh_0 : decode cX6_isHigh 0 = .ok (.iload_n 0, 1) := by decide +kernel
theorem dX6_isHigh_1 : decode cX6_isHigh 1 = .ok (.i2l, 1) := by decide +kernel
theorem dX6_isHigh_2 : decode cX6_isHigh 2 = .ok (.lconst 0, 1) := by decide +kernel
theorem dX6_isHigh_3 : decode cX6_isHigh 3 = .ok (.ldc2_w 56, 3) := by decide +kernel
theorem dX6_isHigh_6 : decode cX6_isHigh 6 = .ok (.invokestatic 48, 3) := by decide +kernel
theorem dX6_isHigh_9 : decode cX6_isHigh 9 = .ok (.ireturn, 1) := by decide +kernel
theorem dX6_held_0 : decode cX6_held 0 = .ok (.iconst 0, 1) := by decide +kernel
theorem dX6_held_1 : decode cX6_held 1 = .ok (.bipush 99, 2) := by decide +kernel
theorem dX6_held_3 : decode cX6_held 3 = .ok (.iload_n 0, 1) := by decide +kernel
theorem dX6_held_4 : decode cX6_held 4 = .ok (.invokestatic 58, 3) := by decide +kernel
theorem dX6_held_7 : decode cX6_held 7 = .ok (.invokestatic 64, 3) := by decide +kernel
theorem dX6_held_10 : decode cX6_held 10 = .ok (.ireturn, 1) := by decide +kernel
theorem dX6_its_0 : decode cX6_its 0 = .ok (.aload_n 0, 1) := by decide +kernel
theorem dX6_its_1 : decode cX6_its 1 = .ok (.getfield 9, 3) := by decide +kernel
theorem dX6_its_4 : decode cX6_its 4 = .ok (.bipush 29, 2) := by decide +kernel
theorem dX6_its_6 : decode cX6_its 6 = .ok (.bipush 8, 2) := by decide +kernel
theorem dX6_its_8 : decode cX6_its 8 = .ok (.iload_n 1, 1) := by decide +kernel
theorem dX6_its_9 : decode cX6_its 9 = .ok (.imul, 1) := by decide +kernel
theorem dX6_its_10 : decode cX6_its 10 = .ok (.iadd, 1) := by decide +kernel
theorem dX6_its_11 : decode cX6_its 11 = .ok (.iload_n 2, 1) := by decide +kernel
theorem dX6_its_12 : decode cX6_its 12 = .ok (.iadd, 1) := by decide +kernel
theorem dX6_its_13 : decode cX6_its 13 = .ok (.iaload, 1) := by decide +kernel
theorem dX6_its_14 : decode cX6_its 14 = .ok (.ireturn, 1) := by decide +kernel
theorem dX6_sets_0 : decode cX6_sets 0 = .ok (.aload_n 0, 1) := by decide +kernel
theorem dX6_sets_1 : decode cX6_sets 1 = .ok (.getfield 9, 3) := by decide +kernel
theorem dX6_sets_4 : decode cX6_sets 4 = .ok (.bipush 29, 2) := by decide +kernel
theorem dX6_sets_6 : decode cX6_sets 6 = .ok (.bipush 8, 2) := by decide +kernel
theorem dX6_sets_8 : decode cX6_sets 8 = .ok (.iload_n 1, 1) := by decide +kernel
theorem dX6_sets_9 : decode cX6_sets 9 = .ok (.imul, 1) := by decide +kernel
theorem dX6_sets_10 : decode cX6_sets 10 = .ok (.iadd, 1) := by decide +kernel
theorem dX6_sets_11 : decode cX6_sets 11 = .ok (.iload_n 2, 1) := by decide +kernel
theorem dX6_sets_12 : decode cX6_sets 12 = .ok (.iadd, 1) := by decide +kernel
theorem dX6_sets_13 : decode cX6_sets 13 = .ok (.iload_n 3, 1) := by decide +kernel
theorem dX6_sets_14 : decode cX6_sets 14 = .ok (.iastore, 1) := by decide +kernel
theorem dX6_sets_15 : decode cX6_sets 15 = .ok (.return_, 1) := by decide +kernel
theorem dX6_becomes_0 : decode cX6_becomes 0 = .ok (.aload_n 0, 1) := by decide +kernel
theorem dX6_becomes_1 : decode cX6_becomes 1 = .ok (.getfield 9, 3) := by decide +kernel
theorem dX6_becomes_4 : decode cX6_becomes 4 = .ok (.iload_n 1, 1) := by decide +kernel
theorem dX6_becomes_5 : decode cX6_becomes 5 = .ok (.iaload, 1) := by decide +kernel
theorem dX6_becomes_6 : decode cX6_becomes 6 = .ok (.istore_n 3, 1) := by decide +kernel
theorem dX6_becomes_7 : decode cX6_becomes 7 = .ok (.aload_n 0, 1) := by decide +kernel
theorem dX6_becomes_8 : decode cX6_becomes 8 = .ok (.getfield 9, 3) := by decide +kernel
theorem dX6_becomes_11 : decode cX6_becomes 11 = .ok (.iload_n 1, 1) := by decide +kernel
theorem dX6_becomes_12 : decode cX6_becomes 12 = .ok (.iload_n 2, 1) := by decide +kernel
theorem dX6_becomes_13 : decode cX6_becomes 13 = .ok (.iastore, 1) := by decide +kernel
theorem dX6_becomes_14 : decode cX6_becomes 14 = .ok (.iload_n 3, 1) := by decide +kernel
theorem dX6_becomes_15 : decode cX6_becomes 15 = .ok (.ireturn, 1) := by decide +kernel
theorem dX6_cellOf_0 : decode cX6_cellOf 0 = .ok (.iconst 5, 1) := by decide +kernel
theorem dX6_cellOf_1 : decode cX6_cellOf 1 = .ok (.iload_n 0, 1) := by decide +kernel
theorem dX6_cellOf_2 : decode cX6_cellOf 2 = .ok (.iconst 4, 1) := by decide +kernel
theorem dX6_cellOf_3 : decode cX6_cellOf 3 = .ok (.idiv, 1) := by decide +kernel
theorem dX6_cellOf_4 : decode cX6_cellOf 4 = .ok (.iload_n 1, 1) := by decide +kernel
theorem dX6_cellOf_5 : decode cX6_cellOf 5 = .ok (.iconst 2, 1) := by decide +kernel
theorem dX6_cellOf_6 : decode cX6_cellOf 6 = .ok (.idiv, 1) := by decide +kernel
theorem dX6_cellOf_7 : decode cX6_cellOf 7 = .ok (.iadd, 1) := by decide +kernel
theorem dX6_cellOf_8 : decode cX6_cellOf 8 = .ok (.imul, 1) := by decide +kernel
theorem dX6_cellOf_9 : decode cX6_cellOf 9 = .ok (.iload_n 0, 1) := by decide +kernel
theorem dX6_cellOf_10 : decode cX6_cellOf 10 = .ok (.iconst 4, 1) := by decide +kernel
theorem dX6_cellOf_11 : decode cX6_cellOf 11 = .ok (.irem, 1) := by decide +kernel
theorem dX6_cellOf_12 : decode cX6_cellOf 12 = .ok (.iadd, 1) := by decide +kernel
theorem dX6_cellOf_13 : decode cX6_cellOf 13 = .ok (.iload_n 1, 1) := by decide +kernel
theorem dX6_cellOf_14 : decode cX6_cellOf 14 = .ok (.iconst 2, 1) := by decide +kernel
theorem dX6_cellOf_15 : decode cX6_cellOf 15 = .ok (.irem, 1) := by decide +kernel
theorem dX6_cellOf_16 : decode cX6_cellOf 16 = .ok (.iadd, 1) := by decide +kernel
theorem dX6_cellOf_17 : decode cX6_cellOf 17 = .ok (.ireturn, 1) := by decide +kernel
theorem dX6_areBeside_0 : decode cX6_areBeside 0 = .ok (.iload_n 0, 1) := by decide +kernel
theorem dX6_areBeside_1 : decode cX6_areBeside 1 = .ok (.iconst 5, 1) := by decide +kernel
theorem dX6_areBeside_2 : decode cX6_areBeside 2 = .ok (.idiv, 1) := by decide +kernel
theorem dX6_areBeside_3 : decode cX6_areBeside 3 = .ok (.iload_n 1, 1) := by decide +kernel
theorem dX6_areBeside_4 : decode cX6_areBeside 4 = .ok (.iconst 5, 1) := by decide +kernel
theorem dX6_areBeside_5 : decode cX6_areBeside 5 = .ok (.idiv, 1) := by decide +kernel
theorem dX6_areBeside_6 : decode cX6_areBeside 6 = .ok (.isub, 1) := by decide +kernel
theorem dX6_areBeside_7 : decode cX6_areBeside 7 = .ok (.invokestatic 67, 3) := by decide +kernel
theorem dX6_areBeside_10 : decode cX6_areBeside 10 = .ok (.iload_n 0, 1) := by decide +kernel
theorem dX6_areBeside_11 : decode cX6_areBeside 11 = .ok (.iconst 5, 1) := by decide +kernel
theorem dX6_areBeside_12 : decode cX6_areBeside 12 = .ok (.irem, 1) := by decide +kernel
theorem dX6_areBeside_13 : decode cX6_areBeside 13 = .ok (.iload_n 1, 1) := by decide +kernel
theorem dX6_areBeside_14 : decode cX6_areBeside 14 = .ok (.iconst 5, 1) := by decide +kernel
theorem dX6_areBeside_15 : decode cX6_areBeside 15 = .ok (.irem, 1) := by decide +kernel
theorem dX6_areBeside_16 : decode cX6_areBeside 16 = .ok (.isub, 1) := by decide +kernel
theorem dX6_areBeside_17 : decode cX6_areBeside 17 = .ok (.invokestatic 67, 3) := by decide +kernel
theorem dX6_areBeside_20 : decode cX6_areBeside 20 = .ok (.iadd, 1) := by decide +kernel
theorem dX6_areBeside_21 : decode cX6_areBeside 21 = .ok (.iconst 1, 1) := by decide +kernel
theorem dX6_areBeside_22 : decode cX6_areBeside 22 = .ok (.if_icmp .ne 7, 3) := by decide +kernel
theorem dX6_areBeside_25 : decode cX6_areBeside 25 = .ok (.iconst 1, 1) := by decide +kernel
theorem dX6_areBeside_26 : decode cX6_areBeside 26 = .ok (.goto 4, 3) := by decide +kernel
theorem dX6_areBeside_29 : decode cX6_areBeside 29 = .ok (.iconst 0, 1) := by decide +kernel
theorem dX6_areBeside_30 : decode cX6_areBeside 30 = .ok (.ireturn, 1) := by decide +kernel
theorem dX6_aboveOf_0 : decode cX6_aboveOf 0 = .ok (.iload_n 0, 1) := by decide +kernel
theorem dX6_aboveOf_1 : decode cX6_aboveOf 1 = .ok (.iconst 3, 1) := by decide +kernel
theorem dX6_aboveOf_2 : decode cX6_aboveOf 2 = .ok (.if_icmp .ne 7, 3) := by decide +kernel
theorem dX6_aboveOf_5 : decode cX6_aboveOf 5 = .ok (.iconst 2, 1) := by decide +kernel
theorem dX6_aboveOf_6 : decode cX6_aboveOf 6 = .ok (.goto 23, 3) := by decide +kernel
theorem dX6_aboveOf_9 : decode cX6_aboveOf 9 = .ok (.iload_n 0, 1) := by decide +kernel
theorem dX6_aboveOf_10 : decode cX6_aboveOf 10 = .ok (.iconst 4, 1) := by decide +kernel
theorem dX6_aboveOf_11 : decode cX6_aboveOf 11 = .ok (.if_icmp .ne 7, 3) := by decide +kernel
theorem dX6_aboveOf_14 : decode cX6_aboveOf 14 = .ok (.iconst 3, 1) := by decide +kernel
theorem dX6_aboveOf_15 : decode cX6_aboveOf 15 = .ok (.goto 14, 3) := by decide +kernel
theorem dX6_aboveOf_18 : decode cX6_aboveOf 18 = .ok (.iload_n 0, 1) := by decide +kernel
theorem dX6_aboveOf_19 : decode cX6_aboveOf 19 = .ok (.bipush 6, 2) := by decide +kernel
theorem dX6_aboveOf_21 : decode cX6_aboveOf 21 = .ok (.if_icmp .ne 7, 3) := by decide +kernel
theorem dX6_aboveOf_24 : decode cX6_aboveOf 24 = .ok (.iconst 1, 1) := by decide +kernel
theorem dX6_aboveOf_25 : decode cX6_aboveOf 25 = .ok (.goto 4, 3) := by decide +kernel
theorem dX6_aboveOf_28 : decode cX6_aboveOf 28 = .ok (.iconst 0, 1) := by decide +kernel
theorem dX6_aboveOf_29 : decode cX6_aboveOf 29 = .ok (.ireturn, 1) := by decide +kernel
theorem dX6_isUnder_0 : decode cX6_isUnder 0 = .ok (.iload_n 0, 1) := by decide +kernel
theorem dX6_isUnder_1 : decode cX6_isUnder 1 = .ok (.istore_n 2, 1) := by decide +kernel
theorem dX6_isUnder_2 : decode cX6_isUnder 2 = .ok (.iload_n 2, 1) := by decide +kernel
theorem dX6_isUnder_3 : decode cX6_isUnder 3 = .ok (.ifCond .eq 16, 3) := by decide +kernel
theorem dX6_isUnder_6 : decode cX6_isUnder 6 = .ok (.iload_n 2, 1) := by decide +kernel
theorem dX6_isUnder_7 : decode cX6_isUnder 7 = .ok (.iload_n 1, 1) := by decide +kernel
theorem dX6_isUnder_8 : decode cX6_isUnder 8 = .ok (.if_icmp .eq 11, 3) := by decide +kernel
theorem dX6_isUnder_11 : decode cX6_isUnder 11 = .ok (.iload_n 2, 1) := by decide +kernel
theorem dX6_isUnder_12 : decode cX6_isUnder 12 = .ok (.invokestatic 71, 3) := by decide +kernel
theorem dX6_isUnder_15 : decode cX6_isUnder 15 = .ok (.istore_n 2, 1) := by decide +kernel
theorem dX6_isUnder_16 : decode cX6_isUnder 16 = .ok (.goto (-14), 3) := by decide +kernel
theorem dX6_isUnder_19 : decode cX6_isUnder 19 = .ok (.iload_n 2, 1) := by decide +kernel
theorem dX6_isUnder_20 : decode cX6_isUnder 20 = .ok (.iload_n 1, 1) := by decide +kernel
theorem dX6_isUnder_21 : decode cX6_isUnder 21 = .ok (.if_icmp .ne 7, 3) := by decide +kernel
theorem dX6_isUnder_24 : decode cX6_isUnder 24 = .ok (.iconst 1, 1) := by decide +kernel
theorem dX6_isUnder_25 : decode cX6_isUnder 25 = .ok (.goto 4, 3) := by decide +kernel
theorem dX6_isUnder_28 : decode cX6_isUnder 28 = .ok (.iconst 0, 1) := by decide +kernel
theorem dX6_isUnder_29 : decode cX6_isUnder 29 = .ok (.ireturn, 1) := by decide +kernel
theorem dX6_isKind_0 : decode cX6_isKind 0 = .ok (.iload_n 0, 1) := by decide +kernel
theorem dX6_isKind_1 : decode cX6_isKind 1 = .ok (.i2l, 1) := by decide +kernel
theorem dX6_isKind_2 : decode cX6_isKind 2 = .ok (.lconst 0, 1) := by decide +kernel
theorem dX6_isKind_3 : decode cX6_isKind 3 = .ok (.ldc2_w 74, 3) := by decide +kernel
theorem dX6_isKind_6 : decode cX6_isKind 6 = .ok (.invokestatic 48, 3) := by decide +kernel
theorem dX6_isKind_9 : decode cX6_isKind 9 = .ok (.ireturn, 1) := by decide +kernel
theorem dX6_presses_0 : decode cX6_presses 0 = .ok (.iload_n 2, 1) := by decide +kernel
theorem dX6_presses_1 : decode cX6_presses 1 = .ok (.iload_n 1, 1) := by decide +kernel
theorem dX6_presses_2 : decode cX6_presses 2 = .ok (.iload_n 2, 1) := by decide +kernel
theorem dX6_presses_3 : decode cX6_presses 3 = .ok (.if_icmp .le 7, 3) := by decide +kernel
theorem dX6_presses_6 : decode cX6_presses 6 = .ok (.iconst 1, 1) := by decide +kernel
theorem dX6_presses_7 : decode cX6_presses 7 = .ok (.goto 4, 3) := by decide +kernel
theorem dX6_presses_10 : decode cX6_presses 10 = .ok (.iconst 0, 1) := by decide +kernel
theorem dX6_presses_11 : decode cX6_presses 11 = .ok (.iadd, 1) := by decide +kernel
theorem dX6_presses_12 : decode cX6_presses 12 = .ok (.istore_n 3, 1) := by decide +kernel
theorem dX6_presses_13 : decode cX6_presses 13 = .ok (.iload_n 0, 1) := by decide +kernel
theorem dX6_presses_14 : decode cX6_presses 14 = .ok (.tableswitch 60 1 6 #[38, 44, 46, 48, 52, 40], 38) := by decide +kernel
theorem dX6_presses_52 : decode cX6_presses 52 = .ok (.iload_n 1, 1) := by decide +kernel
theorem dX6_presses_53 : decode cX6_presses 53 = .ok (.ireturn, 1) := by decide +kernel
theorem dX6_presses_54 : decode cX6_presses 54 = .ok (.iload_n 1, 1) := by decide +kernel
theorem dX6_presses_55 : decode cX6_presses 55 = .ok (.iconst 1, 1) := by decide +kernel
theorem dX6_presses_56 : decode cX6_presses 56 = .ok (.iadd, 1) := by decide +kernel
theorem dX6_presses_57 : decode cX6_presses 57 = .ok (.ireturn, 1) := by decide +kernel
theorem dX6_presses_58 : decode cX6_presses 58 = .ok (.iload_n 2, 1) := by decide +kernel
theorem dX6_presses_59 : decode cX6_presses 59 = .ok (.ireturn, 1) := by decide +kernel
theorem dX6_presses_60 : decode cX6_presses 60 = .ok (.iload_n 3, 1) := by decide +kernel
theorem dX6_presses_61 : decode cX6_presses 61 = .ok (.ireturn, 1) := by decide +kernel
theorem dX6_presses_62 : decode cX6_presses 62 = .ok (.iload_n 3, 1) := by decide +kernel
theorem dX6_presses_63 : decode cX6_presses 63 = .ok (.iconst 3, 1) := by decide +kernel
theorem dX6_presses_64 : decode cX6_presses 64 = .ok (.iadd, 1) := by decide +kernel
theorem dX6_presses_65 : decode cX6_presses 65 = .ok (.ireturn, 1) := by decide +kernel
theorem dX6_presses_66 : decode cX6_presses 66 = .ok (.iload_n 1, 1) := by decide +kernel
theorem dX6_presses_67 : decode cX6_presses 67 = .ok (.iconst 3, 1) := by decide +kernel
theorem dX6_presses_68 : decode cX6_presses 68 = .ok (.iload_n 2, 1) := by decide +kernel
theorem dX6_presses_69 : decode cX6_presses 69 = .ok (.imul, 1) := by decide +kernel
theorem dX6_presses_70 : decode cX6_presses 70 = .ok (.iadd, 1) := by decide +kernel
theorem dX6_presses_71 : decode cX6_presses 71 = .ok (.iconst 4, 1) := by decide +kernel
theorem dX6_presses_72 : decode cX6_presses 72 = .ok (.idiv, 1) := by decide +kernel
theorem dX6_presses_73 : decode cX6_presses 73 = .ok (.ireturn, 1) := by decide +kernel
theorem dX6_presses_74 : decode cX6_presses 74 = .ok (.iload_n 1, 1) := by decide +kernel
theorem dX6_presses_75 : decode cX6_presses 75 = .ok (.iload_n 2, 1) := by decide +kernel
theorem dX6_presses_76 : decode cX6_presses 76 = .ok (.iadd, 1) := by decide +kernel
theorem dX6_presses_77 : decode cX6_presses 77 = .ok (.iconst 2, 1) := by decide +kernel
theorem dX6_presses_78 : decode cX6_presses 78 = .ok (.idiv, 1) := by decide +kernel
theorem dX6_presses_79 : decode cX6_presses 79 = .ok (.ireturn, 1) := by decide +kernel
theorem dX6_takes_0 : decode cX6_takes 0 = .ok (.iload_n 0, 1) := by decide +kernel
theorem dX6_takes_1 : decode cX6_takes 1 = .ok (.tableswitch 63 1 6 #[39, 41, 63, 43, 51, 39], 39) := by decide +kernel
theorem dX6_takes_40 : decode cX6_takes 40 = .ok (.iload_n 2, 1) := by decide +kernel
theorem dX6_takes_41 : decode cX6_takes 41 = .ok (.ireturn, 1) := by decide +kernel
theorem dX6_takes_42 : decode cX6_takes 42 = .ok (.iload_n 3, 1) := by decide +kernel
theorem dX6_takes_43 : decode cX6_takes 43 = .ok (.ireturn, 1) := by decide +kernel
theorem dX6_takes_44 : decode cX6_takes 44 = .ok (.iload_n 2, 1) := by decide +kernel
theorem dX6_takes_45 : decode cX6_takes 45 = .ok (.iload_n 3, 1) := by decide +kernel
theorem dX6_takes_46 : decode cX6_takes 46 = .ok (.iadd, 1) := by decide +kernel
theorem dX6_takes_47 : decode cX6_takes 47 = .ok (.iconst 2, 1) := by decide +kernel
theorem dX6_takes_48 : decode cX6_takes 48 = .ok (.idiv, 1) := by decide +kernel
theorem dX6_takes_49 : decode cX6_takes 49 = .ok (.iconst 1, 1) := by decide +kernel
theorem dX6_takes_50 : decode cX6_takes 50 = .ok (.iadd, 1) := by decide +kernel
theorem dX6_takes_51 : decode cX6_takes 51 = .ok (.ireturn, 1) := by decide +kernel
theorem dX6_takes_52 : decode cX6_takes 52 = .ok (.iload_n 1, 1) := by decide +kernel
theorem dX6_takes_53 : decode cX6_takes 53 = .ok (.bipush 50, 2) := by decide +kernel
theorem dX6_takes_55 : decode cX6_takes 55 = .ok (.if_icmp .ge 7, 3) := by decide +kernel
theorem dX6_takes_58 : decode cX6_takes 58 = .ok (.iload_n 2, 1) := by decide +kernel
theorem dX6_takes_59 : decode cX6_takes 59 = .ok (.goto 4, 3) := by decide +kernel
theorem dX6_takes_62 : decode cX6_takes 62 = .ok (.iload_n 3, 1) := by decide +kernel
theorem dX6_takes_63 : decode cX6_takes 63 = .ok (.ireturn, 1) := by decide +kernel
theorem dX6_takes_64 : decode cX6_takes 64 = .ok (.iload_n 2, 1) := by decide +kernel
theorem dX6_takes_65 : decode cX6_takes 65 = .ok (.iload_n 3, 1) := by decide +kernel
theorem dX6_takes_66 : decode cX6_takes 66 = .ok (.iadd, 1) := by decide +kernel
theorem dX6_takes_67 : decode cX6_takes 67 = .ok (.iconst 2, 1) := by decide +kernel
theorem dX6_takes_68 : decode cX6_takes 68 = .ok (.idiv, 1) := by decide +kernel
theorem dX6_takes_69 : decode cX6_takes 69 = .ok (.ireturn, 1) := by decide +kernel
theorem dX6_wears_0 : decode cX6_wears 0 = .ok (.aload_n 0, 1) := by decide +kernel
theorem dX6_wears_1 : decode cX6_wears 1 = .ok (.iload_n 1, 1) := by decide +kernel
theorem dX6_wears_2 : decode cX6_wears 2 = .ok (.iconst 0, 1) := by decide +kernel
theorem dX6_wears_3 : decode cX6_wears 3 = .ok (.invokevirtual 76, 3) := by decide +kernel
theorem dX6_wears_6 : decode cX6_wears 6 = .ok (.tableswitch 46 1 6 #[38, 46, 46, 42, 44, 40], 38) := by decide +kernel
theorem dX6_wears_44 : decode cX6_wears 44 = .ok (.iconst 2, 1) := by decide +kernel
theorem dX6_wears_45 : decode cX6_wears 45 = .ok (.ireturn, 1) := by decide +kernel
theorem dX6_wears_46 : decode cX6_wears 46 = .ok (.iconst 4, 1) := by decide +kernel
theorem dX6_wears_47 : decode cX6_wears 47 = .ok (.ireturn, 1) := by decide +kernel
theorem dX6_wears_48 : decode cX6_wears 48 = .ok (.iconst 0, 1) := by decide +kernel
theorem dX6_wears_49 : decode cX6_wears 49 = .ok (.ireturn, 1) := by decide +kernel
theorem dX6_wears_50 : decode cX6_wears 50 = .ok (.iconst 5, 1) := by decide +kernel
theorem dX6_wears_51 : decode cX6_wears 51 = .ok (.ireturn, 1) := by decide +kernel
theorem dX6_wears_52 : decode cX6_wears 52 = .ok (.iconst 1, 1) := by decide +kernel
theorem dX6_wears_53 : decode cX6_wears 53 = .ok (.ireturn, 1) := by decide +kernel
theorem dX6_adds_0 : decode cX6_adds 0 = .ok (.aload_n 0, 1) := by decide +kernel
theorem dX6_adds_1 : decode cX6_adds 1 = .ok (.getfield 9, 3) := by decide +kernel
theorem dX6_adds_4 : decode cX6_adds 4 = .ok (.iconst 2, 1) := by decide +kernel
theorem dX6_adds_5 : decode cX6_adds 5 = .ok (.iaload, 1) := by decide +kernel
theorem dX6_adds_6 : decode cX6_adds 6 = .ok (.istore_n 2, 1) := by decide +kernel
theorem dX6_adds_7 : decode cX6_adds 7 = .ok (.aload_n 0, 1) := by decide +kernel
theorem dX6_adds_8 : decode cX6_adds 8 = .ok (.getfield 9, 3) := by decide +kernel
theorem dX6_adds_11 : decode cX6_adds 11 = .ok (.iconst 2, 1) := by decide +kernel
theorem dX6_adds_12 : decode cX6_adds 12 = .ok (.dup2, 1) := by decide +kernel
theorem dX6_adds_13 : decode cX6_adds 13 = .ok (.iaload, 1) := by decide +kernel
theorem dX6_adds_14 : decode cX6_adds 14 = .ok (.iconst 1, 1) := by decide +kernel
theorem dX6_adds_15 : decode cX6_adds 15 = .ok (.iadd, 1) := by decide +kernel
theorem dX6_adds_16 : decode cX6_adds 16 = .ok (.iastore, 1) := by decide +kernel
theorem dX6_adds_17 : decode cX6_adds 17 = .ok (.aload_n 0, 1) := by decide +kernel
theorem dX6_adds_18 : decode cX6_adds 18 = .ok (.iload_n 2, 1) := by decide +kernel
theorem dX6_adds_19 : decode cX6_adds 19 = .ok (.iconst 0, 1) := by decide +kernel
theorem dX6_adds_20 : decode cX6_adds 20 = .ok (.iload_n 1, 1) := by decide +kernel
theorem dX6_adds_21 : decode cX6_adds 21 = .ok (.invokevirtual 79, 3) := by decide +kernel
theorem dX6_adds_24 : decode cX6_adds 24 = .ok (.aload_n 0, 1) := by decide +kernel
theorem dX6_adds_25 : decode cX6_adds 25 = .ok (.iload_n 2, 1) := by decide +kernel
theorem dX6_adds_26 : decode cX6_adds 26 = .ok (.iconst 1, 1) := by decide +kernel
theorem dX6_adds_27 : decode cX6_adds 27 = .ok (.iconst (-1), 1) := by decide +kernel
theorem dX6_adds_28 : decode cX6_adds 28 = .ok (.invokevirtual 79, 3) := by decide +kernel
theorem dX6_adds_31 : decode cX6_adds 31 = .ok (.aload_n 0, 1) := by decide +kernel
theorem dX6_adds_32 : decode cX6_adds 32 = .ok (.iload_n 2, 1) := by decide +kernel
theorem dX6_adds_33 : decode cX6_adds 33 = .ok (.iconst 2, 1) := by decide +kernel
theorem dX6_adds_34 : decode cX6_adds 34 = .ok (.iconst 0, 1) := by decide +kernel
theorem dX6_adds_35 : decode cX6_adds 35 = .ok (.invokevirtual 79, 3) := by decide +kernel
theorem dX6_adds_38 : decode cX6_adds 38 = .ok (.iconst 0, 1) := by decide +kernel
theorem dX6_adds_39 : decode cX6_adds 39 = .ok (.istore_n 3, 1) := by decide +kernel
theorem dX6_adds_40 : decode cX6_adds 40 = .ok (.iload_n 3, 1) := by decide +kernel
theorem dX6_adds_41 : decode cX6_adds 41 = .ok (.iconst 4, 1) := by decide +kernel
theorem dX6_adds_42 : decode cX6_adds 42 = .ok (.if_icmp .ge 18, 3) := by decide +kernel
theorem dX6_adds_45 : decode cX6_adds 45 = .ok (.aload_n 0, 1) := by decide +kernel
theorem dX6_adds_46 : decode cX6_adds 46 = .ok (.iload_n 2, 1) := by decide +kernel
theorem dX6_adds_47 : decode cX6_adds 47 = .ok (.iconst 4, 1) := by decide +kernel
theorem dX6_adds_48 : decode cX6_adds 48 = .ok (.iload_n 3, 1) := by decide +kernel
theorem dX6_adds_49 : decode cX6_adds 49 = .ok (.iadd, 1) := by decide +kernel
theorem dX6_adds_50 : decode cX6_adds 50 = .ok (.iconst (-1), 1) := by decide +kernel
theorem dX6_adds_51 : decode cX6_adds 51 = .ok (.invokevirtual 79, 3) := by decide +kernel
theorem dX6_adds_54 : decode cX6_adds 54 = .ok (.iinc 3 1, 3) := by decide +kernel
theorem dX6_adds_57 : decode cX6_adds 57 = .ok (.goto (-17), 3) := by decide +kernel
theorem dX6_adds_60 : decode cX6_adds 60 = .ok (.iload_n 2, 1) := by decide +kernel
theorem dX6_adds_61 : decode cX6_adds 61 = .ok (.ireturn, 1) := by decide +kernel
theorem dX6_height_0 : decode cX6_height 0 = .ok (.iload_n 1, 1) := by decide +kernel
theorem dX6_height_1 : decode cX6_height 1 = .ok (.invokestatic 83, 3) := by decide +kernel
theorem dX6_height_4 : decode cX6_height 4 = .ok (.ifCond .eq 21, 3) := by decide +kernel
theorem dX6_height_7 : decode cX6_height 7 = .ok (.iload_n 2, 1) := by decide +kernel
theorem dX6_height_8 : decode cX6_height 8 = .ok (.invokestatic 87, 3) := by decide +kernel
theorem dX6_height_11 : decode cX6_height 11 = .ok (.ifCond .eq 14, 3) := by decide +kernel
theorem dX6_height_14 : decode cX6_height 14 = .ok (.aload_n 0, 1) := by decide +kernel
theorem dX6_height_15 : decode cX6_height 15 = .ok (.iconst 4, 1) := by decide +kernel
theorem dX6_height_16 : decode cX6_height 16 = .ok (.iload_n 1, 1) := by decide +kernel
theorem dX6_height_17 : decode cX6_height 17 = .ok (.iadd, 1) := by decide +kernel
theorem dX6_height_18 : decode cX6_height 18 = .ok (.iload_n 2, 1) := by decide +kernel
theorem dX6_height_19 : decode cX6_height 19 = .ok (.invokevirtual 90, 3) := by decide +kernel
theorem dX6_height_22 : decode cX6_height 22 = .ok (.goto 8, 3) := by decide +kernel
theorem dX6_height_25 : decode cX6_height 25 = .ok (.aload_n 0, 1) := by decide +kernel
theorem dX6_height_26 : decode cX6_height 26 = .ok (.iconst 0, 1) := by decide +kernel
theorem dX6_height_27 : decode cX6_height 27 = .ok (.invokevirtual 93, 3) := by decide +kernel
theorem dX6_height_30 : decode cX6_height 30 = .ok (.ireturn, 1) := by decide +kernel
theorem dX6_springs_0 : decode cX6_springs 0 = .ok (.aload_n 0, 1) := by decide +kernel
theorem dX6_springs_1 : decode cX6_springs 1 = .ok (.getfield 9, 3) := by decide +kernel
theorem dX6_springs_4 : decode cX6_springs 4 = .ok (.iconst 3, 1) := by decide +kernel
theorem dX6_springs_5 : decode cX6_springs 5 = .ok (.aload_n 0, 1) := by decide +kernel
theorem dX6_springs_6 : decode cX6_springs 6 = .ok (.getfield 9, 3) := by decide +kernel
theorem dX6_springs_9 : decode cX6_springs 9 = .ok (.iconst 3, 1) := by decide +kernel
theorem dX6_springs_10 : decode cX6_springs 10 = .ok (.iaload, 1) := by decide +kernel
theorem dX6_springs_11 : decode cX6_springs 11 = .ok (.iconst 1, 1) := by decide +kernel
theorem dX6_springs_12 : decode cX6_springs 12 = .ok (.iload_n 1, 1) := by decide +kernel
theorem dX6_springs_13 : decode cX6_springs 13 = .ok (.ishl, 1) := by decide +kernel
theorem dX6_springs_14 : decode cX6_springs 14 = .ok (.iconst (-1), 1) := by decide +kernel
theorem dX6_springs_15 : decode cX6_springs 15 = .ok (.ixor, 1) := by decide +kernel
theorem dX6_springs_16 : decode cX6_springs 16 = .ok (.iand, 1) := by decide +kernel
theorem dX6_springs_17 : decode cX6_springs 17 = .ok (.iload_n 2, 1) := by decide +kernel
theorem dX6_springs_18 : decode cX6_springs 18 = .ok (.iload_n 1, 1) := by decide +kernel
theorem dX6_springs_19 : decode cX6_springs 19 = .ok (.ishl, 1) := by decide +kernel
theorem dX6_springs_20 : decode cX6_springs 20 = .ok (.ior, 1) := by decide +kernel
theorem dX6_springs_21 : decode cX6_springs 21 = .ok (.iastore, 1) := by decide +kernel
theorem dX6_springs_22 : decode cX6_springs 22 = .ok (.return_, 1) := by decide +kernel
theorem dX6_hasSpring_0 : decode cX6_hasSpring 0 = .ok (.aload_n 0, 1) := by decide +kernel
theorem dX6_hasSpring_1 : decode cX6_hasSpring 1 = .ok (.getfield 9, 3) := by decide +kernel
theorem dX6_hasSpring_4 : decode cX6_hasSpring 4 = .ok (.iconst 3, 1) := by decide +kernel
theorem dX6_hasSpring_5 : decode cX6_hasSpring 5 = .ok (.iaload, 1) := by decide +kernel
theorem dX6_hasSpring_6 : decode cX6_hasSpring 6 = .ok (.iload_n 1, 1) := by decide +kernel
theorem dX6_hasSpring_7 : decode cX6_hasSpring 7 = .ok (.ishr, 1) := by decide +kernel
theorem dX6_hasSpring_8 : decode cX6_hasSpring 8 = .ok (.iconst 1, 1) := by decide +kernel
theorem dX6_hasSpring_9 : decode cX6_hasSpring 9 = .ok (.iand, 1) := by decide +kernel
theorem dX6_hasSpring_10 : decode cX6_hasSpring 10 = .ok (.iconst 1, 1) := by decide +kernel
theorem dX6_hasSpring_11 : decode cX6_hasSpring 11 = .ok (.if_icmp .ne 7, 3) := by decide +kernel
theorem dX6_hasSpring_14 : decode cX6_hasSpring 14 = .ok (.iconst 1, 1) := by decide +kernel
theorem dX6_hasSpring_15 : decode cX6_hasSpring 15 = .ok (.goto 4, 3) := by decide +kernel
theorem dX6_hasSpring_18 : decode cX6_hasSpring 18 = .ok (.iconst 0, 1) := by decide +kernel
theorem dX6_hasSpring_19 : decode cX6_hasSpring 19 = .ok (.ireturn, 1) := by decide +kernel
theorem dX6_spring_0 : decode cX6_spring 0 = .ok (.iload_n 1, 1) := by decide +kernel
theorem dX6_spring_1 : decode cX6_spring 1 = .ok (.invokestatic 83, 3) := by decide +kernel
theorem dX6_spring_4 : decode cX6_spring 4 = .ok (.ifCond .eq 13, 3) := by decide +kernel
theorem dX6_spring_7 : decode cX6_spring 7 = .ok (.iload_n 2, 1) := by decide +kernel
theorem dX6_spring_8 : decode cX6_spring 8 = .ok (.i2l, 1) := by decide +kernel
theorem dX6_spring_9 : decode cX6_spring 9 = .ok (.lconst 0, 1) := by decide +kernel
theorem dX6_spring_10 : decode cX6_spring 10 = .ok (.lconst 1, 1) := by decide +kernel
theorem dX6_spring_11 : decode cX6_spring 11 = .ok (.invokestatic 48, 3) := by decide +kernel
theorem dX6_spring_14 : decode cX6_spring 14 = .ok (.ifCond .ne 9, 3) := by decide +kernel
theorem dX6_spring_17 : decode cX6_spring 17 = .ok (.aload_n 0, 1) := by decide +kernel
theorem dX6_spring_18 : decode cX6_spring 18 = .ok (.iconst 0, 1) := by decide +kernel
theorem dX6_spring_19 : decode cX6_spring 19 = .ok (.invokevirtual 93, 3) := by decide +kernel
theorem dX6_spring_22 : decode cX6_spring 22 = .ok (.ireturn, 1) := by decide +kernel
theorem dX6_spring_23 : decode cX6_spring 23 = .ok (.aload_n 0, 1) := by decide +kernel
theorem dX6_spring_24 : decode cX6_spring 24 = .ok (.iload_n 1, 1) := by decide +kernel
theorem dX6_spring_25 : decode cX6_spring 25 = .ok (.invokevirtual 96, 3) := by decide +kernel
theorem dX6_spring_28 : decode cX6_spring 28 = .ok (.ifCond .eq 7, 3) := by decide +kernel
theorem dX6_spring_31 : decode cX6_spring 31 = .ok (.iconst 1, 1) := by decide +kernel
theorem dX6_spring_32 : decode cX6_spring 32 = .ok (.goto 4, 3) := by decide +kernel
theorem dX6_spring_35 : decode cX6_spring 35 = .ok (.iconst 0, 1) := by decide +kernel
theorem dX6_spring_36 : decode cX6_spring 36 = .ok (.istore_n 3, 1) := by decide +kernel
theorem dX6_spring_37 : decode cX6_spring 37 = .ok (.aload_n 0, 1) := by decide +kernel
theorem dX6_spring_38 : decode cX6_spring 38 = .ok (.iload_n 1, 1) := by decide +kernel
theorem dX6_spring_39 : decode cX6_spring 39 = .ok (.iload_n 2, 1) := by decide +kernel
theorem dX6_spring_40 : decode cX6_spring 40 = .ok (.invokevirtual 99, 3) := by decide +kernel
theorem dX6_spring_43 : decode cX6_spring 43 = .ok (.iload_n 3, 1) := by decide +kernel
theorem dX6_spring_44 : decode cX6_spring 44 = .ok (.ireturn, 1) := by decide +kernel
theorem dX6_covers_0 : decode cX6_covers 0 = .ok (.iconst 0, 1) := by decide +kernel
theorem dX6_covers_1 : decode cX6_covers 1 = .ok (.istore_n 3, 1) := by decide +kernel
theorem dX6_covers_2 : decode cX6_covers 2 = .ok (.iconst 0, 1) := by decide +kernel
theorem dX6_covers_3 : decode cX6_covers 3 = .ok (.istore 4, 2) := by decide +kernel
theorem dX6_covers_5 : decode cX6_covers 5 = .ok (.iload 4, 2) := by decide +kernel
theorem dX6_covers_7 : decode cX6_covers 7 = .ok (.iconst 4, 1) := by decide +kernel
theorem dX6_covers_8 : decode cX6_covers 8 = .ok (.if_icmp .ge 33, 3) := by decide +kernel
theorem dX6_covers_11 : decode cX6_covers 11 = .ok (.iload_n 1, 1) := by decide +kernel
theorem dX6_covers_12 : decode cX6_covers 12 = .ok (.ifCond .lt 29, 3) := by decide +kernel
theorem dX6_covers_15 : decode cX6_covers 15 = .ok (.iload_n 3, 1) := by decide +kernel
theorem dX6_covers_16 : decode cX6_covers 16 = .ok (.ifCond .ne 13, 3) := by decide +kernel
theorem dX6_covers_19 : decode cX6_covers 19 = .ok (.iload_n 1, 1) := by decide +kernel
theorem dX6_covers_20 : decode cX6_covers 20 = .ok (.iload 4, 2) := by decide +kernel
theorem dX6_covers_22 : decode cX6_covers 22 = .ok (.invokestatic 103, 3) := by decide +kernel
theorem dX6_covers_25 : decode cX6_covers 25 = .ok (.iload_n 2, 1) := by decide +kernel
theorem dX6_covers_26 : decode cX6_covers 26 = .ok (.if_icmp .ne 7, 3) := by decide +kernel
theorem dX6_covers_29 : decode cX6_covers 29 = .ok (.iconst 1, 1) := by decide +kernel
theorem dX6_covers_30 : decode cX6_covers 30 = .ok (.goto 4, 3) := by decide +kernel
theorem dX6_covers_33 : decode cX6_covers 33 = .ok (.iconst 0, 1) := by decide +kernel
theorem dX6_covers_34 : decode cX6_covers 34 = .ok (.istore_n 3, 1) := by decide +kernel
theorem dX6_covers_35 : decode cX6_covers 35 = .ok (.iinc 4 1, 3) := by decide +kernel
theorem dX6_covers_38 : decode cX6_covers 38 = .ok (.goto (-33), 3) := by decide +kernel
theorem dX6_covers_41 : decode cX6_covers 41 = .ok (.iload_n 3, 1) := by decide +kernel
theorem dX6_covers_42 : decode cX6_covers 42 = .ok (.ireturn, 1) := by decide +kernel
theorem dX6_tentsOn_0 : decode cX6_tentsOn 0 = .ok (.iconst 0, 1) := by decide +kernel
theorem dX6_tentsOn_1 : decode cX6_tentsOn 1 = .ok (.istore_n 2, 1) := by decide +kernel
theorem dX6_tentsOn_2 : decode cX6_tentsOn 2 = .ok (.iconst 0, 1) := by decide +kernel
theorem dX6_tentsOn_3 : decode cX6_tentsOn 3 = .ok (.istore_n 3, 1) := by decide +kernel
theorem dX6_tentsOn_4 : decode cX6_tentsOn 4 = .ok (.iload_n 3, 1) := by decide +kernel
theorem dX6_tentsOn_5 : decode cX6_tentsOn 5 = .ok (.aload_n 0, 1) := by decide +kernel
theorem dX6_tentsOn_6 : decode cX6_tentsOn 6 = .ok (.getfield 9, 3) := by decide +kernel
theorem dX6_tentsOn_9 : decode cX6_tentsOn 9 = .ok (.iconst 2, 1) := by decide +kernel
theorem dX6_tentsOn_10 : decode cX6_tentsOn 10 = .ok (.iaload, 1) := by decide +kernel
theorem dX6_tentsOn_11 : decode cX6_tentsOn 11 = .ok (.if_icmp .ge 33, 3) := by decide +kernel
theorem dX6_tentsOn_14 : decode cX6_tentsOn 14 = .ok (.iload_n 2, 1) := by decide +kernel
theorem dX6_tentsOn_15 : decode cX6_tentsOn 15 = .ok (.aload_n 0, 1) := by decide +kernel
theorem dX6_tentsOn_16 : decode cX6_tentsOn 16 = .ok (.aload_n 0, 1) := by decide +kernel
theorem dX6_tentsOn_17 : decode cX6_tentsOn 17 = .ok (.iload_n 3, 1) := by decide +kernel
theorem dX6_tentsOn_18 : decode cX6_tentsOn 18 = .ok (.iconst 1, 1) := by decide +kernel
theorem dX6_tentsOn_19 : decode cX6_tentsOn 19 = .ok (.invokevirtual 76, 3) := by decide +kernel
theorem dX6_tentsOn_22 : decode cX6_tentsOn 22 = .ok (.iload_n 1, 1) := by decide +kernel
theorem dX6_tentsOn_23 : decode cX6_tentsOn 23 = .ok (.invokevirtual 106, 3) := by decide +kernel
theorem dX6_tentsOn_26 : decode cX6_tentsOn 26 = .ok (.ifCond .eq 9, 3) := by decide +kernel
theorem dX6_tentsOn_29 : decode cX6_tentsOn 29 = .ok (.iconst 1, 1) := by decide +kernel
theorem dX6_tentsOn_30 : decode cX6_tentsOn 30 = .ok (.iload_n 3, 1) := by decide +kernel
theorem dX6_tentsOn_31 : decode cX6_tentsOn 31 = .ok (.ishl, 1) := by decide +kernel
theorem dX6_tentsOn_32 : decode cX6_tentsOn 32 = .ok (.goto 4, 3) := by decide +kernel
theorem dX6_tentsOn_35 : decode cX6_tentsOn 35 = .ok (.iconst 0, 1) := by decide +kernel
theorem dX6_tentsOn_36 : decode cX6_tentsOn 36 = .ok (.ior, 1) := by decide +kernel
theorem dX6_tentsOn_37 : decode cX6_tentsOn 37 = .ok (.istore_n 2, 1) := by decide +kernel
theorem dX6_tentsOn_38 : decode cX6_tentsOn 38 = .ok (.iinc 3 1, 3) := by decide +kernel
theorem dX6_tentsOn_41 : decode cX6_tentsOn 41 = .ok (.goto (-37), 3) := by decide +kernel
theorem dX6_tentsOn_44 : decode cX6_tentsOn 44 = .ok (.iload_n 2, 1) := by decide +kernel
theorem dX6_tentsOn_45 : decode cX6_tentsOn 45 = .ok (.ireturn, 1) := by decide +kernel
theorem dX6_steepest_0 : decode cX6_steepest 0 = .ok (.iconst 0, 1) := by decide +kernel
theorem dX6_steepest_1 : decode cX6_steepest 1 = .ok (.istore_n 2, 1) := by decide +kernel
theorem dX6_steepest_2 : decode cX6_steepest 2 = .ok (.iconst 0, 1) := by decide +kernel
theorem dX6_steepest_3 : decode cX6_steepest 3 = .ok (.istore_n 3, 1) := by decide +kernel
theorem dX6_steepest_4 : decode cX6_steepest 4 = .ok (.iload_n 3, 1) := by decide +kernel
theorem dX6_steepest_5 : decode cX6_steepest 5 = .ok (.bipush 25, 2) := by decide +kernel
theorem dX6_steepest_7 : decode cX6_steepest 7 = .ok (.if_icmp .ge 46, 3) := by decide +kernel
theorem dX6_steepest_10 : decode cX6_steepest 10 = .ok (.iload_n 3, 1) := by decide +kernel
theorem dX6_steepest_11 : decode cX6_steepest 11 = .ok (.iload_n 1, 1) := by decide +kernel
theorem dX6_steepest_12 : decode cX6_steepest 12 = .ok (.invokestatic 110, 3) := by decide +kernel
theorem dX6_steepest_15 : decode cX6_steepest 15 = .ok (.ifCond .eq 30, 3) := by decide +kernel
theorem dX6_steepest_18 : decode cX6_steepest 18 = .ok (.iload_n 2, 1) := by decide +kernel
theorem dX6_steepest_19 : decode cX6_steepest 19 = .ok (.aload_n 0, 1) := by decide +kernel
theorem dX6_steepest_20 : decode cX6_steepest 20 = .ok (.getfield 9, 3) := by decide +kernel
theorem dX6_steepest_23 : decode cX6_steepest 23 = .ok (.iconst 4, 1) := by decide +kernel
theorem dX6_steepest_24 : decode cX6_steepest 24 = .ok (.iload_n 3, 1) := by decide +kernel
theorem dX6_steepest_25 : decode cX6_steepest 25 = .ok (.iadd, 1) := by decide +kernel
theorem dX6_steepest_26 : decode cX6_steepest 26 = .ok (.iaload, 1) := by decide +kernel
theorem dX6_steepest_27 : decode cX6_steepest 27 = .ok (.aload_n 0, 1) := by decide +kernel
theorem dX6_steepest_28 : decode cX6_steepest 28 = .ok (.getfield 9, 3) := by decide +kernel
theorem dX6_steepest_31 : decode cX6_steepest 31 = .ok (.iconst 4, 1) := by decide +kernel
theorem dX6_steepest_32 : decode cX6_steepest 32 = .ok (.iload_n 1, 1) := by decide +kernel
theorem dX6_steepest_33 : decode cX6_steepest 33 = .ok (.iadd, 1) := by decide +kernel
theorem dX6_steepest_34 : decode cX6_steepest 34 = .ok (.iaload, 1) := by decide +kernel
theorem dX6_steepest_35 : decode cX6_steepest 35 = .ok (.isub, 1) := by decide +kernel
theorem dX6_steepest_36 : decode cX6_steepest 36 = .ok (.invokestatic 67, 3) := by decide +kernel
theorem dX6_steepest_39 : decode cX6_steepest 39 = .ok (.invokestatic 64, 3) := by decide +kernel
theorem dX6_steepest_42 : decode cX6_steepest 42 = .ok (.goto 4, 3) := by decide +kernel
theorem dX6_steepest_45 : decode cX6_steepest 45 = .ok (.iload_n 2, 1) := by decide +kernel
theorem dX6_steepest_46 : decode cX6_steepest 46 = .ok (.istore_n 2, 1) := by decide +kernel
theorem dX6_steepest_47 : decode cX6_steepest 47 = .ok (.iinc 3 1, 3) := by decide +kernel
theorem dX6_steepest_50 : decode cX6_steepest 50 = .ok (.goto (-46), 3) := by decide +kernel
theorem dX6_steepest_53 : decode cX6_steepest 53 = .ok (.iload_n 2, 1) := by decide +kernel
theorem dX6_steepest_54 : decode cX6_steepest 54 = .ok (.ireturn, 1) := by decide +kernel
theorem dX6_cell_0 : decode cX6_cell 0 = .ok (.iload_n 1, 1) := by decide +kernel
theorem dX6_cell_1 : decode cX6_cell 1 = .ok (.invokestatic 83, 3) := by decide +kernel
theorem dX6_cell_4 : decode cX6_cell 4 = .ok (.ifCond .eq 15, 3) := by decide +kernel
theorem dX6_cell_7 : decode cX6_cell 7 = .ok (.iload_n 2, 1) := by decide +kernel
theorem dX6_cell_8 : decode cX6_cell 8 = .ok (.i2l, 1) := by decide +kernel
theorem dX6_cell_9 : decode cX6_cell 9 = .ok (.lconst 0, 1) := by decide +kernel
theorem dX6_cell_10 : decode cX6_cell 10 = .ok (.ldc2_w 113, 3) := by decide +kernel
theorem dX6_cell_13 : decode cX6_cell 13 = .ok (.invokestatic 48, 3) := by decide +kernel
theorem dX6_cell_16 : decode cX6_cell 16 = .ok (.ifCond .ne 9, 3) := by decide +kernel
theorem dX6_cell_19 : decode cX6_cell 19 = .ok (.aload_n 0, 1) := by decide +kernel
theorem dX6_cell_20 : decode cX6_cell 20 = .ok (.iconst 0, 1) := by decide +kernel
theorem dX6_cell_21 : decode cX6_cell 21 = .ok (.invokevirtual 93, 3) := by decide +kernel
theorem dX6_cell_24 : decode cX6_cell 24 = .ok (.ireturn, 1) := by decide +kernel
theorem dX6_cell_25 : decode cX6_cell 25 = .ok (.iload_n 2, 1) := by decide +kernel
theorem dX6_cell_26 : decode cX6_cell 26 = .ok (.tableswitch 55 0 2 #[26, 35, 49], 26) := by decide +kernel
theorem dX6_cell_52 : decode cX6_cell 52 = .ok (.aload_n 0, 1) := by decide +kernel
theorem dX6_cell_53 : decode cX6_cell 53 = .ok (.getfield 9, 3) := by decide +kernel
theorem dX6_cell_56 : decode cX6_cell 56 = .ok (.iconst 4, 1) := by decide +kernel
theorem dX6_cell_57 : decode cX6_cell 57 = .ok (.iload_n 1, 1) := by decide +kernel
theorem dX6_cell_58 : decode cX6_cell 58 = .ok (.iadd, 1) := by decide +kernel
theorem dX6_cell_59 : decode cX6_cell 59 = .ok (.iaload, 1) := by decide +kernel
theorem dX6_cell_60 : decode cX6_cell 60 = .ok (.ireturn, 1) := by decide +kernel
theorem dX6_cell_61 : decode cX6_cell 61 = .ok (.aload_n 0, 1) := by decide +kernel
theorem dX6_cell_62 : decode cX6_cell 62 = .ok (.iload_n 1, 1) := by decide +kernel
theorem dX6_cell_63 : decode cX6_cell 63 = .ok (.invokevirtual 96, 3) := by decide +kernel
theorem dX6_cell_66 : decode cX6_cell 66 = .ok (.ifCond .eq 7, 3) := by decide +kernel
theorem dX6_cell_69 : decode cX6_cell 69 = .ok (.iconst 1, 1) := by decide +kernel
theorem dX6_cell_70 : decode cX6_cell 70 = .ok (.goto 4, 3) := by decide +kernel
theorem dX6_cell_73 : decode cX6_cell 73 = .ok (.iconst 0, 1) := by decide +kernel
theorem dX6_cell_74 : decode cX6_cell 74 = .ok (.ireturn, 1) := by decide +kernel
theorem dX6_cell_75 : decode cX6_cell 75 = .ok (.aload_n 0, 1) := by decide +kernel
theorem dX6_cell_76 : decode cX6_cell 76 = .ok (.iload_n 1, 1) := by decide +kernel
theorem dX6_cell_77 : decode cX6_cell 77 = .ok (.invokevirtual 115, 3) := by decide +kernel
theorem dX6_cell_80 : decode cX6_cell 80 = .ok (.ireturn, 1) := by decide +kernel
theorem dX6_cell_81 : decode cX6_cell 81 = .ok (.aload_n 0, 1) := by decide +kernel
theorem dX6_cell_82 : decode cX6_cell 82 = .ok (.iload_n 1, 1) := by decide +kernel
theorem dX6_cell_83 : decode cX6_cell 83 = .ok (.invokevirtual 118, 3) := by decide +kernel
theorem dX6_cell_86 : decode cX6_cell 86 = .ok (.ireturn, 1) := by decide +kernel
theorem dX6_tent_0 : decode cX6_tent 0 = .ok (.iload_n 1, 1) := by decide +kernel
theorem dX6_tent_1 : decode cX6_tent 1 = .ok (.invokestatic 121, 3) := by decide +kernel
theorem dX6_tent_4 : decode cX6_tent 4 = .ok (.ifCond .ne 9, 3) := by decide +kernel
theorem dX6_tent_7 : decode cX6_tent 7 = .ok (.aload_n 0, 1) := by decide +kernel
theorem dX6_tent_8 : decode cX6_tent 8 = .ok (.iconst 0, 1) := by decide +kernel
theorem dX6_tent_9 : decode cX6_tent 9 = .ok (.invokevirtual 93, 3) := by decide +kernel
theorem dX6_tent_12 : decode cX6_tent 12 = .ok (.ireturn, 1) := by decide +kernel
theorem dX6_tent_13 : decode cX6_tent 13 = .ok (.aload_n 0, 1) := by decide +kernel
theorem dX6_tent_14 : decode cX6_tent 14 = .ok (.getfield 9, 3) := by decide +kernel
theorem dX6_tent_17 : decode cX6_tent 17 = .ok (.iconst 2, 1) := by decide +kernel
theorem dX6_tent_18 : decode cX6_tent 18 = .ok (.iaload, 1) := by decide +kernel
theorem dX6_tent_19 : decode cX6_tent 19 = .ok (.bipush 6, 2) := by decide +kernel
theorem dX6_tent_21 : decode cX6_tent 21 = .ok (.if_icmp .ne 11, 3) := by decide +kernel
theorem dX6_tent_24 : decode cX6_tent 24 = .ok (.aload_n 0, 1) := by decide +kernel
theorem dX6_tent_25 : decode cX6_tent 25 = .ok (.iconst 1, 1) := by decide +kernel
theorem dX6_tent_26 : decode cX6_tent 26 = .ok (.invokevirtual 93, 3) := by decide +kernel
theorem dX6_tent_29 : decode cX6_tent 29 = .ok (.goto 8, 3) := by decide +kernel
theorem dX6_tent_32 : decode cX6_tent 32 = .ok (.aload_n 0, 1) := by decide +kernel
theorem dX6_tent_33 : decode cX6_tent 33 = .ok (.iload_n 1, 1) := by decide +kernel
theorem dX6_tent_34 : decode cX6_tent 34 = .ok (.invokevirtual 124, 3) := by decide +kernel
theorem dX6_tent_37 : decode cX6_tent 37 = .ok (.ireturn, 1) := by decide +kernel
theorem dX6_of_0 : decode cX6_of 0 = .ok (.aload_n 0, 1) := by decide +kernel
theorem dX6_of_1 : decode cX6_of 1 = .ok (.iload_n 1, 1) := by decide +kernel
theorem dX6_of_2 : decode cX6_of 2 = .ok (.invokevirtual 127, 3) := by decide +kernel
theorem dX6_of_5 : decode cX6_of 5 = .ok (.ifCond .eq 15, 3) := by decide +kernel
theorem dX6_of_8 : decode cX6_of 8 = .ok (.iload_n 2, 1) := by decide +kernel
theorem dX6_of_9 : decode cX6_of 9 = .ok (.i2l, 1) := by decide +kernel
theorem dX6_of_10 : decode cX6_of 10 = .ok (.lconst 0, 1) := by decide +kernel
theorem dX6_of_11 : decode cX6_of 11 = .ok (.ldc2_w 130, 3) := by decide +kernel
theorem dX6_of_14 : decode cX6_of 14 = .ok (.invokestatic 48, 3) := by decide +kernel
theorem dX6_of_17 : decode cX6_of 17 = .ok (.ifCond .ne 9, 3) := by decide +kernel
theorem dX6_of_20 : decode cX6_of 20 = .ok (.aload_n 0, 1) := by decide +kernel
theorem dX6_of_21 : decode cX6_of 21 = .ok (.iconst 0, 1) := by decide +kernel
theorem dX6_of_22 : decode cX6_of 22 = .ok (.invokevirtual 93, 3) := by decide +kernel
theorem dX6_of_25 : decode cX6_of 25 = .ok (.ireturn, 1) := by decide +kernel
theorem dX6_of_26 : decode cX6_of 26 = .ok (.iload_n 2, 1) := by decide +kernel
theorem dX6_of_27 : decode cX6_of 27 = .ok (.iconst 3, 1) := by decide +kernel
theorem dX6_of_28 : decode cX6_of 28 = .ok (.if_icmp .ne 11, 3) := by decide +kernel
theorem dX6_of_31 : decode cX6_of 31 = .ok (.aload_n 0, 1) := by decide +kernel
theorem dX6_of_32 : decode cX6_of 32 = .ok (.iload_n 1, 1) := by decide +kernel
theorem dX6_of_33 : decode cX6_of 33 = .ok (.invokevirtual 132, 3) := by decide +kernel
theorem dX6_of_36 : decode cX6_of 36 = .ok (.goto 9, 3) := by decide +kernel
theorem dX6_of_39 : decode cX6_of 39 = .ok (.aload_n 0, 1) := by decide +kernel
theorem dX6_of_40 : decode cX6_of 40 = .ok (.iload_n 1, 1) := by decide +kernel
theorem dX6_of_41 : decode cX6_of 41 = .ok (.iload_n 2, 1) := by decide +kernel
theorem dX6_of_42 : decode cX6_of 42 = .ok (.invokevirtual 76, 3) := by decide +kernel
theorem dX6_of_45 : decode cX6_of 45 = .ok (.ireturn, 1) := by decide +kernel
theorem dX6_mayBe_0 : decode cX6_mayBe 0 = .ok (.iload_n 0, 1) := by decide +kernel
theorem dX6_mayBe_1 : decode cX6_mayBe 1 = .ok (.tableswitch 49 0 2 #[27, 32, 44], 27) := by decide +kernel
theorem dX6_mayBe_28 : decode cX6_mayBe 28 = .ok (.iload_n 1, 1) := by decide +kernel
theorem dX6_mayBe_29 : decode cX6_mayBe 29 = .ok (.invokestatic 121, 3) := by decide +kernel
theorem dX6_mayBe_32 : decode cX6_mayBe 32 = .ok (.ireturn, 1) := by decide +kernel
theorem dX6_mayBe_33 : decode cX6_mayBe 33 = .ok (.iload_n 1, 1) := by decide +kernel
theorem dX6_mayBe_34 : decode cX6_mayBe 34 = .ok (.i2l, 1) := by decide +kernel
theorem dX6_mayBe_35 : decode cX6_mayBe 35 = .ok (.ldc2_w 135, 3) := by decide +kernel
theorem dX6_mayBe_38 : decode cX6_mayBe 38 = .ok (.ldc2_w 54, 3) := by decide +kernel
theorem dX6_mayBe_41 : decode cX6_mayBe 41 = .ok (.invokestatic 48, 3) := by decide +kernel
theorem dX6_mayBe_44 : decode cX6_mayBe 44 = .ok (.ireturn, 1) := by decide +kernel
theorem dX6_mayBe_45 : decode cX6_mayBe 45 = .ok (.iload_n 1, 1) := by decide +kernel
theorem dX6_mayBe_46 : decode cX6_mayBe 46 = .ok (.invokestatic 87, 3) := by decide +kernel
theorem dX6_mayBe_49 : decode cX6_mayBe 49 = .ok (.ireturn, 1) := by decide +kernel
theorem dX6_mayBe_50 : decode cX6_mayBe 50 = .ok (.iload_n 0, 1) := by decide +kernel
theorem dX6_mayBe_51 : decode cX6_mayBe 51 = .ok (.i2l, 1) := by decide +kernel
theorem dX6_mayBe_52 : decode cX6_mayBe 52 = .ok (.ldc2_w 137, 3) := by decide +kernel
theorem dX6_mayBe_55 : decode cX6_mayBe 55 = .ok (.ldc2_w 130, 3) := by decide +kernel
theorem dX6_mayBe_58 : decode cX6_mayBe 58 = .ok (.invokestatic 48, 3) := by decide +kernel
theorem dX6_mayBe_61 : decode cX6_mayBe 61 = .ok (.ifCond .eq 21, 3) := by decide +kernel
theorem dX6_mayBe_64 : decode cX6_mayBe 64 = .ok (.iload_n 1, 1) := by decide +kernel
theorem dX6_mayBe_65 : decode cX6_mayBe 65 = .ok (.i2l, 1) := by decide +kernel
theorem dX6_mayBe_66 : decode cX6_mayBe 66 = .ok (.ldc2_w 135, 3) := by decide +kernel
theorem dX6_mayBe_69 : decode cX6_mayBe 69 = .ok (.ldc2_w 56, 3) := by decide +kernel
theorem dX6_mayBe_72 : decode cX6_mayBe 72 = .ok (.invokestatic 48, 3) := by decide +kernel
theorem dX6_mayBe_75 : decode cX6_mayBe 75 = .ok (.ifCond .eq 7, 3) := by decide +kernel
theorem dX6_mayBe_78 : decode cX6_mayBe 78 = .ok (.iconst 1, 1) := by decide +kernel
theorem dX6_mayBe_79 : decode cX6_mayBe 79 = .ok (.goto 4, 3) := by decide +kernel
theorem dX6_mayBe_82 : decode cX6_mayBe 82 = .ok (.iconst 0, 1) := by decide +kernel
theorem dX6_mayBe_83 : decode cX6_mayBe 83 = .ok (.ireturn, 1) := by decide +kernel
theorem dX6_change_0 : decode cX6_change 0 = .ok (.aload_n 0, 1) := by decide +kernel
theorem dX6_change_1 : decode cX6_change 1 = .ok (.iload_n 1, 1) := by decide +kernel
theorem dX6_change_2 : decode cX6_change 2 = .ok (.invokevirtual 127, 3) := by decide +kernel
theorem dX6_change_5 : decode cX6_change 5 = .ok (.ifCond .eq 28, 3) := by decide +kernel
theorem dX6_change_8 : decode cX6_change 8 = .ok (.iload_n 2, 1) := by decide +kernel
theorem dX6_change_9 : decode cX6_change 9 = .ok (.iload_n 3, 1) := by decide +kernel
theorem dX6_change_10 : decode cX6_change 10 = .ok (.invokestatic 139, 3) := by decide +kernel
theorem dX6_change_13 : decode cX6_change 13 = .ok (.ifCond .eq 20, 3) := by decide +kernel
theorem dX6_change_16 : decode cX6_change 16 = .ok (.aload_n 0, 1) := by decide +kernel
theorem dX6_change_17 : decode cX6_change 17 = .ok (.bipush 29, 2) := by decide +kernel
theorem dX6_change_19 : decode cX6_change 19 = .ok (.bipush 8, 2) := by decide +kernel
theorem dX6_change_21 : decode cX6_change 21 = .ok (.iload_n 1, 1) := by decide +kernel
theorem dX6_change_22 : decode cX6_change 22 = .ok (.imul, 1) := by decide +kernel
theorem dX6_change_23 : decode cX6_change 23 = .ok (.iadd, 1) := by decide +kernel
theorem dX6_change_24 : decode cX6_change 24 = .ok (.iload_n 2, 1) := by decide +kernel
theorem dX6_change_25 : decode cX6_change 25 = .ok (.iadd, 1) := by decide +kernel
theorem dX6_change_26 : decode cX6_change 26 = .ok (.iload_n 3, 1) := by decide +kernel
theorem dX6_change_27 : decode cX6_change 27 = .ok (.invokevirtual 90, 3) := by decide +kernel
theorem dX6_change_30 : decode cX6_change 30 = .ok (.goto 8, 3) := by decide +kernel
theorem dX6_change_33 : decode cX6_change 33 = .ok (.aload_n 0, 1) := by decide +kernel
theorem dX6_change_34 : decode cX6_change 34 = .ok (.iconst 0, 1) := by decide +kernel
theorem dX6_change_35 : decode cX6_change 35 = .ok (.invokevirtual 93, 3) := by decide +kernel
theorem dX6_change_38 : decode cX6_change 38 = .ok (.ireturn, 1) := by decide +kernel
theorem dX6_beat_0 : decode cX6_beat 0 = .ok (.aload_n 0, 1) := by decide +kernel
theorem dX6_beat_1 : decode cX6_beat 1 = .ok (.iload_n 1, 1) := by decide +kernel
theorem dX6_beat_2 : decode cX6_beat 2 = .ok (.invokevirtual 127, 3) := by decide +kernel
theorem dX6_beat_5 : decode cX6_beat 5 = .ok (.ifCond .ne 9, 3) := by decide +kernel
theorem dX6_beat_8 : decode cX6_beat 8 = .ok (.aload_n 0, 1) := by decide +kernel
theorem dX6_beat_9 : decode cX6_beat 9 = .ok (.iconst 0, 1) := by decide +kernel
theorem dX6_beat_10 : decode cX6_beat 10 = .ok (.invokevirtual 93, 3) := by decide +kernel
theorem dX6_beat_13 : decode cX6_beat 13 = .ok (.ireturn, 1) := by decide +kernel
theorem dX6_beat_14 : decode cX6_beat 14 = .ok (.iconst 0, 1) := by decide +kernel
theorem dX6_beat_15 : decode cX6_beat 15 = .ok (.istore_n 2, 1) := by decide +kernel
theorem dX6_beat_16 : decode cX6_beat 16 = .ok (.iconst 0, 1) := by decide +kernel
theorem dX6_beat_17 : decode cX6_beat 17 = .ok (.istore_n 3, 1) := by decide +kernel
theorem dX6_beat_18 : decode cX6_beat 18 = .ok (.iload_n 3, 1) := by decide +kernel
theorem dX6_beat_19 : decode cX6_beat 19 = .ok (.iconst 4, 1) := by decide +kernel
theorem dX6_beat_20 : decode cX6_beat 20 = .ok (.if_icmp .ge 37, 3) := by decide +kernel
theorem dX6_beat_23 : decode cX6_beat 23 = .ok (.iload_n 2, 1) := by decide +kernel
theorem dX6_beat_24 : decode cX6_beat 24 = .ok (.aload_n 0, 1) := by decide +kernel
theorem dX6_beat_25 : decode cX6_beat 25 = .ok (.iload_n 1, 1) := by decide +kernel
theorem dX6_beat_26 : decode cX6_beat 26 = .ok (.iconst 4, 1) := by decide +kernel
theorem dX6_beat_27 : decode cX6_beat 27 = .ok (.iload_n 3, 1) := by decide +kernel
theorem dX6_beat_28 : decode cX6_beat 28 = .ok (.iadd, 1) := by decide +kernel
theorem dX6_beat_29 : decode cX6_beat 29 = .ok (.invokevirtual 76, 3) := by decide +kernel
theorem dX6_beat_32 : decode cX6_beat 32 = .ok (.ifCond .lt 7, 3) := by decide +kernel
theorem dX6_beat_35 : decode cX6_beat 35 = .ok (.iconst 1, 1) := by decide +kernel
theorem dX6_beat_36 : decode cX6_beat 36 = .ok (.goto 4, 3) := by decide +kernel
theorem dX6_beat_39 : decode cX6_beat 39 = .ok (.iconst 0, 1) := by decide +kernel
theorem dX6_beat_40 : decode cX6_beat 40 = .ok (.iadd, 1) := by decide +kernel
theorem dX6_beat_41 : decode cX6_beat 41 = .ok (.istore_n 2, 1) := by decide +kernel
theorem dX6_beat_42 : decode cX6_beat 42 = .ok (.aload_n 0, 1) := by decide +kernel
theorem dX6_beat_43 : decode cX6_beat 43 = .ok (.iload_n 1, 1) := by decide +kernel
theorem dX6_beat_44 : decode cX6_beat 44 = .ok (.iconst 4, 1) := by decide +kernel
theorem dX6_beat_45 : decode cX6_beat 45 = .ok (.iload_n 3, 1) := by decide +kernel
theorem dX6_beat_46 : decode cX6_beat 46 = .ok (.iadd, 1) := by decide +kernel
theorem dX6_beat_47 : decode cX6_beat 47 = .ok (.iconst (-1), 1) := by decide +kernel
theorem dX6_beat_48 : decode cX6_beat 48 = .ok (.invokevirtual 79, 3) := by decide +kernel
theorem dX6_beat_51 : decode cX6_beat 51 = .ok (.iinc 3 1, 3) := by decide +kernel
theorem dX6_beat_54 : decode cX6_beat 54 = .ok (.goto (-36), 3) := by decide +kernel
theorem dX6_beat_57 : decode cX6_beat 57 = .ok (.iload_n 2, 1) := by decide +kernel
theorem dX6_beat_58 : decode cX6_beat 58 = .ok (.ireturn, 1) := by decide +kernel
theorem dX6_pressesOn_0 : decode cX6_pressesOn 0 = .ok (.iconst 4, 1) := by decide +kernel
theorem dX6_pressesOn_1 : decode cX6_pressesOn 1 = .ok (.aload_n 0, 1) := by decide +kernel
theorem dX6_pressesOn_2 : decode cX6_pressesOn 2 = .ok (.iload_n 1, 1) := by decide +kernel
theorem dX6_pressesOn_3 : decode cX6_pressesOn 3 = .ok (.iconst 1, 1) := by decide +kernel
theorem dX6_pressesOn_4 : decode cX6_pressesOn 4 = .ok (.invokevirtual 76, 3) := by decide +kernel
theorem dX6_pressesOn_7 : decode cX6_pressesOn 7 = .ok (.iload_n 2, 1) := by decide +kernel
theorem dX6_pressesOn_8 : decode cX6_pressesOn 8 = .ok (.invokestatic 103, 3) := by decide +kernel
theorem dX6_pressesOn_11 : decode cX6_pressesOn 11 = .ok (.iadd, 1) := by decide +kernel
theorem dX6_pressesOn_12 : decode cX6_pressesOn 12 = .ok (.istore_n 3, 1) := by decide +kernel
theorem dX6_pressesOn_13 : decode cX6_pressesOn 13 = .ok (.aload_n 0, 1) := by decide +kernel
theorem dX6_pressesOn_14 : decode cX6_pressesOn 14 = .ok (.iload_n 1, 1) := by decide +kernel
theorem dX6_pressesOn_15 : decode cX6_pressesOn 15 = .ok (.iconst 4, 1) := by decide +kernel
theorem dX6_pressesOn_16 : decode cX6_pressesOn 16 = .ok (.iload_n 2, 1) := by decide +kernel
theorem dX6_pressesOn_17 : decode cX6_pressesOn 17 = .ok (.iadd, 1) := by decide +kernel
theorem dX6_pressesOn_18 : decode cX6_pressesOn 18 = .ok (.invokevirtual 76, 3) := by decide +kernel
theorem dX6_pressesOn_21 : decode cX6_pressesOn 21 = .ok (.istore 4, 2) := by decide +kernel
theorem dX6_pressesOn_23 : decode cX6_pressesOn 23 = .ok (.aload_n 0, 1) := by decide +kernel
theorem dX6_pressesOn_24 : decode cX6_pressesOn 24 = .ok (.getfield 9, 3) := by decide +kernel
theorem dX6_pressesOn_27 : decode cX6_pressesOn 27 = .ok (.iload_n 3, 1) := by decide +kernel
theorem dX6_pressesOn_28 : decode cX6_pressesOn 28 = .ok (.iaload, 1) := by decide +kernel
theorem dX6_pressesOn_29 : decode cX6_pressesOn 29 = .ok (.istore 5, 2) := by decide +kernel
theorem dX6_pressesOn_31 : decode cX6_pressesOn 31 = .ok (.iload 4, 2) := by decide +kernel
theorem dX6_pressesOn_33 : decode cX6_pressesOn 33 = .ok (.ifCond .lt 25, 3) := by decide +kernel
theorem dX6_pressesOn_36 : decode cX6_pressesOn 36 = .ok (.aload_n 0, 1) := by decide +kernel
theorem dX6_pressesOn_37 : decode cX6_pressesOn 37 = .ok (.getfield 9, 3) := by decide +kernel
theorem dX6_pressesOn_40 : decode cX6_pressesOn 40 = .ok (.iload_n 3, 1) := by decide +kernel
theorem dX6_pressesOn_41 : decode cX6_pressesOn 41 = .ok (.aload_n 0, 1) := by decide +kernel
theorem dX6_pressesOn_42 : decode cX6_pressesOn 42 = .ok (.iload_n 1, 1) := by decide +kernel
theorem dX6_pressesOn_43 : decode cX6_pressesOn 43 = .ok (.iconst 0, 1) := by decide +kernel
theorem dX6_pressesOn_44 : decode cX6_pressesOn 44 = .ok (.invokevirtual 76, 3) := by decide +kernel
theorem dX6_pressesOn_47 : decode cX6_pressesOn 47 = .ok (.iload 4, 2) := by decide +kernel
theorem dX6_pressesOn_49 : decode cX6_pressesOn 49 = .ok (.iload 5, 2) := by decide +kernel
theorem dX6_pressesOn_51 : decode cX6_pressesOn 51 = .ok (.invokestatic 142, 3) := by decide +kernel
theorem dX6_pressesOn_54 : decode cX6_pressesOn 54 = .ok (.invokestatic 146, 3) := by decide +kernel
theorem dX6_pressesOn_57 : decode cX6_pressesOn 57 = .ok (.iastore, 1) := by decide +kernel
theorem dX6_pressesOn_58 : decode cX6_pressesOn 58 = .ok (.aload_n 0, 1) := by decide +kernel
theorem dX6_pressesOn_59 : decode cX6_pressesOn 59 = .ok (.iload_n 1, 1) := by decide +kernel
theorem dX6_pressesOn_60 : decode cX6_pressesOn 60 = .ok (.iconst 4, 1) := by decide +kernel
theorem dX6_pressesOn_61 : decode cX6_pressesOn 61 = .ok (.iload_n 2, 1) := by decide +kernel
theorem dX6_pressesOn_62 : decode cX6_pressesOn 62 = .ok (.iadd, 1) := by decide +kernel
theorem dX6_pressesOn_63 : decode cX6_pressesOn 63 = .ok (.iload 4, 2) := by decide +kernel
theorem dX6_pressesOn_65 : decode cX6_pressesOn 65 = .ok (.ifCond .ge 8, 3) := by decide +kernel
theorem dX6_pressesOn_68 : decode cX6_pressesOn 68 = .ok (.iload 5, 2) := by decide +kernel
theorem dX6_pressesOn_70 : decode cX6_pressesOn 70 = .ok (.goto 25, 3) := by decide +kernel
theorem dX6_pressesOn_73 : decode cX6_pressesOn 73 = .ok (.aload_n 0, 1) := by decide +kernel
theorem dX6_pressesOn_74 : decode cX6_pressesOn 74 = .ok (.iload_n 1, 1) := by decide +kernel
theorem dX6_pressesOn_75 : decode cX6_pressesOn 75 = .ok (.iconst 0, 1) := by decide +kernel
theorem dX6_pressesOn_76 : decode cX6_pressesOn 76 = .ok (.invokevirtual 76, 3) := by decide +kernel
theorem dX6_pressesOn_79 : decode cX6_pressesOn 79 = .ok (.aload_n 0, 1) := by decide +kernel
theorem dX6_pressesOn_80 : decode cX6_pressesOn 80 = .ok (.iload_n 1, 1) := by decide +kernel
theorem dX6_pressesOn_81 : decode cX6_pressesOn 81 = .ok (.iconst 2, 1) := by decide +kernel
theorem dX6_pressesOn_82 : decode cX6_pressesOn 82 = .ok (.invokevirtual 76, 3) := by decide +kernel
theorem dX6_pressesOn_85 : decode cX6_pressesOn 85 = .ok (.iload 4, 2) := by decide +kernel
theorem dX6_pressesOn_87 : decode cX6_pressesOn 87 = .ok (.iload 5, 2) := by decide +kernel
theorem dX6_pressesOn_89 : decode cX6_pressesOn 89 = .ok (.invokestatic 149, 3) := by decide +kernel
theorem dX6_pressesOn_92 : decode cX6_pressesOn 92 = .ok (.invokestatic 146, 3) := by decide +kernel
theorem dX6_pressesOn_95 : decode cX6_pressesOn 95 = .ok (.invokevirtual 79, 3) := by decide +kernel
theorem dX6_pressesOn_98 : decode cX6_pressesOn 98 = .ok (.return_, 1) := by decide +kernel
theorem dX6_aDay_0 : decode cX6_aDay 0 = .ok (.iconst 0, 1) := by decide +kernel
theorem dX6_aDay_1 : decode cX6_aDay 1 = .ok (.istore_n 1, 1) := by decide +kernel
theorem dX6_aDay_2 : decode cX6_aDay 2 = .ok (.iload_n 1, 1) := by decide +kernel
theorem dX6_aDay_3 : decode cX6_aDay 3 = .ok (.aload_n 0, 1) := by decide +kernel
theorem dX6_aDay_4 : decode cX6_aDay 4 = .ok (.getfield 9, 3) := by decide +kernel
theorem dX6_aDay_7 : decode cX6_aDay 7 = .ok (.iconst 2, 1) := by decide +kernel
theorem dX6_aDay_8 : decode cX6_aDay 8 = .ok (.iaload, 1) := by decide +kernel
theorem dX6_aDay_9 : decode cX6_aDay 9 = .ok (.if_icmp .ge 60, 3) := by decide +kernel
theorem dX6_aDay_12 : decode cX6_aDay 12 = .ok (.aload_n 0, 1) := by decide +kernel
theorem dX6_aDay_13 : decode cX6_aDay 13 = .ok (.iload_n 1, 1) := by decide +kernel
theorem dX6_aDay_14 : decode cX6_aDay 14 = .ok (.iconst 1, 1) := by decide +kernel
theorem dX6_aDay_15 : decode cX6_aDay 15 = .ok (.invokevirtual 76, 3) := by decide +kernel
theorem dX6_aDay_18 : decode cX6_aDay 18 = .ok (.ifCond .lt 45, 3) := by decide +kernel
theorem dX6_aDay_21 : decode cX6_aDay 21 = .ok (.iconst 0, 1) := by decide +kernel
theorem dX6_aDay_22 : decode cX6_aDay 22 = .ok (.istore_n 2, 1) := by decide +kernel
theorem dX6_aDay_23 : decode cX6_aDay 23 = .ok (.iload_n 2, 1) := by decide +kernel
theorem dX6_aDay_24 : decode cX6_aDay 24 = .ok (.iconst 4, 1) := by decide +kernel
theorem dX6_aDay_25 : decode cX6_aDay 25 = .ok (.if_icmp .ge 15, 3) := by decide +kernel
theorem dX6_aDay_28 : decode cX6_aDay 28 = .ok (.aload_n 0, 1) := by decide +kernel
theorem dX6_aDay_29 : decode cX6_aDay 29 = .ok (.iload_n 1, 1) := by decide +kernel
theorem dX6_aDay_30 : decode cX6_aDay 30 = .ok (.iload_n 2, 1) := by decide +kernel
theorem dX6_aDay_31 : decode cX6_aDay 31 = .ok (.invokevirtual 153, 3) := by decide +kernel
theorem dX6_aDay_34 : decode cX6_aDay 34 = .ok (.iinc 2 1, 3) := by decide +kernel
theorem dX6_aDay_37 : decode cX6_aDay 37 = .ok (.goto (-14), 3) := by decide +kernel
theorem dX6_aDay_40 : decode cX6_aDay 40 = .ok (.aload_n 0, 1) := by decide +kernel
theorem dX6_aDay_41 : decode cX6_aDay 41 = .ok (.iload_n 1, 1) := by decide +kernel
theorem dX6_aDay_42 : decode cX6_aDay 42 = .ok (.iconst 2, 1) := by decide +kernel
theorem dX6_aDay_43 : decode cX6_aDay 43 = .ok (.bipush 99, 2) := by decide +kernel
theorem dX6_aDay_45 : decode cX6_aDay 45 = .ok (.aload_n 0, 1) := by decide +kernel
theorem dX6_aDay_46 : decode cX6_aDay 46 = .ok (.iload_n 1, 1) := by decide +kernel
theorem dX6_aDay_47 : decode cX6_aDay 47 = .ok (.iconst 2, 1) := by decide +kernel
theorem dX6_aDay_48 : decode cX6_aDay 48 = .ok (.invokevirtual 76, 3) := by decide +kernel
theorem dX6_aDay_51 : decode cX6_aDay 51 = .ok (.aload_n 0, 1) := by decide +kernel
theorem dX6_aDay_52 : decode cX6_aDay 52 = .ok (.iload_n 1, 1) := by decide +kernel
theorem dX6_aDay_53 : decode cX6_aDay 53 = .ok (.invokevirtual 132, 3) := by decide +kernel
theorem dX6_aDay_56 : decode cX6_aDay 56 = .ok (.iadd, 1) := by decide +kernel
theorem dX6_aDay_57 : decode cX6_aDay 57 = .ok (.invokestatic 58, 3) := by decide +kernel
theorem dX6_aDay_60 : decode cX6_aDay 60 = .ok (.invokevirtual 79, 3) := by decide +kernel
theorem dX6_aDay_63 : decode cX6_aDay 63 = .ok (.iinc 1 1, 3) := by decide +kernel
theorem dX6_aDay_66 : decode cX6_aDay 66 = .ok (.goto (-64), 3) := by decide +kernel
theorem dX6_aDay_69 : decode cX6_aDay 69 = .ok (.aload_n 0, 1) := by decide +kernel
theorem dX6_aDay_70 : decode cX6_aDay 70 = .ok (.getfield 9, 3) := by decide +kernel
theorem dX6_aDay_73 : decode cX6_aDay 73 = .ok (.iconst 0, 1) := by decide +kernel
theorem dX6_aDay_74 : decode cX6_aDay 74 = .ok (.dup2, 1) := by decide +kernel
theorem dX6_aDay_75 : decode cX6_aDay 75 = .ok (.iaload, 1) := by decide +kernel
theorem dX6_aDay_76 : decode cX6_aDay 76 = .ok (.iconst 1, 1) := by decide +kernel
theorem dX6_aDay_77 : decode cX6_aDay 77 = .ok (.iadd, 1) := by decide +kernel
theorem dX6_aDay_78 : decode cX6_aDay 78 = .ok (.iastore, 1) := by decide +kernel
theorem dX6_aDay_79 : decode cX6_aDay 79 = .ok (.return_, 1) := by decide +kernel
theorem dX6_days_0 : decode cX6_days 0 = .ok (.iconst 0, 1) := by decide +kernel
theorem dX6_days_1 : decode cX6_days 1 = .ok (.istore_n 2, 1) := by decide +kernel
theorem dX6_days_2 : decode cX6_days 2 = .ok (.iload_n 2, 1) := by decide +kernel
theorem dX6_days_3 : decode cX6_days 3 = .ok (.iload_n 1, 1) := by decide +kernel
theorem dX6_days_4 : decode cX6_days 4 = .ok (.if_icmp .ge 13, 3) := by decide +kernel
theorem dX6_days_7 : decode cX6_days 7 = .ok (.aload_n 0, 1) := by decide +kernel
theorem dX6_days_8 : decode cX6_days 8 = .ok (.invokevirtual 156, 3) := by decide +kernel
theorem dX6_days_11 : decode cX6_days 11 = .ok (.iinc 2 1, 3) := by decide +kernel
theorem dX6_days_14 : decode cX6_days 14 = .ok (.goto (-12), 3) := by decide +kernel
theorem dX6_days_17 : decode cX6_days 17 = .ok (.return_, 1) := by decide +kernel
theorem dX6_heights_0 : decode cX6_heights 0 = .ok (.iconst 0, 1) := by decide +kernel
theorem dX6_heights_1 : decode cX6_heights 1 = .ok (.istore_n 1, 1) := by decide +kernel
theorem dX6_heights_2 : decode cX6_heights 2 = .ok (.iconst 0, 1) := by decide +kernel
theorem dX6_heights_3 : decode cX6_heights 3 = .ok (.istore_n 2, 1) := by decide +kernel
theorem dX6_heights_4 : decode cX6_heights 4 = .ok (.iload_n 2, 1) := by decide +kernel
theorem dX6_heights_5 : decode cX6_heights 5 = .ok (.bipush 25, 2) := by decide +kernel
theorem dX6_heights_7 : decode cX6_heights 7 = .ok (.if_icmp .ge 20, 3) := by decide +kernel
theorem dX6_heights_10 : decode cX6_heights 10 = .ok (.iload_n 1, 1) := by decide +kernel
theorem dX6_heights_11 : decode cX6_heights 11 = .ok (.aload_n 0, 1) := by decide +kernel
theorem dX6_heights_12 : decode cX6_heights 12 = .ok (.getfield 9, 3) := by decide +kernel
theorem dX6_heights_15 : decode cX6_heights 15 = .ok (.iconst 4, 1) := by decide +kernel
theorem dX6_heights_16 : decode cX6_heights 16 = .ok (.iload_n 2, 1) := by decide +kernel
theorem dX6_heights_17 : decode cX6_heights 17 = .ok (.iadd, 1) := by decide +kernel
theorem dX6_heights_18 : decode cX6_heights 18 = .ok (.iaload, 1) := by decide +kernel
theorem dX6_heights_19 : decode cX6_heights 19 = .ok (.iadd, 1) := by decide +kernel
theorem dX6_heights_20 : decode cX6_heights 20 = .ok (.istore_n 1, 1) := by decide +kernel
theorem dX6_heights_21 : decode cX6_heights 21 = .ok (.iinc 2 1, 3) := by decide +kernel
theorem dX6_heights_24 : decode cX6_heights 24 = .ok (.goto (-20), 3) := by decide +kernel
theorem dX6_heights_27 : decode cX6_heights 27 = .ok (.iload_n 1, 1) := by decide +kernel
theorem dX6_heights_28 : decode cX6_heights 28 = .ok (.ireturn, 1) := by decide +kernel
theorem dX6_go_0 : decode cX6_go 0 = .ok (.iload_n 1, 1) := by decide +kernel
theorem dX6_go_1 : decode cX6_go 1 = .ok (.i2l, 1) := by decide +kernel
theorem dX6_go_2 : decode cX6_go 2 = .ok (.lconst 1, 1) := by decide +kernel
theorem dX6_go_3 : decode cX6_go 3 = .ok (.ldc2_w 159, 3) := by decide +kernel
theorem dX6_go_6 : decode cX6_go 6 = .ok (.invokestatic 48, 3) := by decide +kernel
theorem dX6_go_9 : decode cX6_go 9 = .ok (.ifCond .ne 9, 3) := by decide +kernel
theorem dX6_go_12 : decode cX6_go 12 = .ok (.aload_n 0, 1) := by decide +kernel
theorem dX6_go_13 : decode cX6_go 13 = .ok (.iconst 0, 1) := by decide +kernel
theorem dX6_go_14 : decode cX6_go 14 = .ok (.invokevirtual 93, 3) := by decide +kernel
theorem dX6_go_17 : decode cX6_go 17 = .ok (.ireturn, 1) := by decide +kernel
theorem dX6_go_18 : decode cX6_go 18 = .ok (.aload_n 0, 1) := by decide +kernel
theorem dX6_go_19 : decode cX6_go 19 = .ok (.getfield 9, 3) := by decide +kernel
theorem dX6_go_22 : decode cX6_go 22 = .ok (.iconst 0, 1) := by decide +kernel
theorem dX6_go_23 : decode cX6_go 23 = .ok (.iaload, 1) := by decide +kernel
theorem dX6_go_24 : decode cX6_go 24 = .ok (.iload_n 1, 1) := by decide +kernel
theorem dX6_go_25 : decode cX6_go 25 = .ok (.iadd, 1) := by decide +kernel
theorem dX6_go_26 : decode cX6_go 26 = .ok (.ldc 161, 2) := by decide +kernel
theorem dX6_go_28 : decode cX6_go 28 = .ok (.if_icmp .le 9, 3) := by decide +kernel
theorem dX6_go_31 : decode cX6_go 31 = .ok (.aload_n 0, 1) := by decide +kernel
theorem dX6_go_32 : decode cX6_go 32 = .ok (.iconst 4, 1) := by decide +kernel
theorem dX6_go_33 : decode cX6_go 33 = .ok (.invokevirtual 93, 3) := by decide +kernel
theorem dX6_go_36 : decode cX6_go 36 = .ok (.ireturn, 1) := by decide +kernel
theorem dX6_go_37 : decode cX6_go 37 = .ok (.aload_n 0, 1) := by decide +kernel
theorem dX6_go_38 : decode cX6_go 38 = .ok (.iload_n 1, 1) := by decide +kernel
theorem dX6_go_39 : decode cX6_go 39 = .ok (.invokevirtual 162, 3) := by decide +kernel
theorem dX6_go_42 : decode cX6_go 42 = .ok (.aload_n 0, 1) := by decide +kernel
theorem dX6_go_43 : decode cX6_go 43 = .ok (.invokevirtual 166, 3) := by decide +kernel
theorem dX6_go_46 : decode cX6_go 46 = .ok (.ireturn, 1) := by decide +kernel
theorem dX6_ones_0 : decode cX6_ones 0 = .ok (.iconst 0, 1) := by decide +kernel
theorem dX6_ones_1 : decode cX6_ones 1 = .ok (.istore_n 1, 1) := by decide +kernel
theorem dX6_ones_2 : decode cX6_ones 2 = .ok (.iconst 0, 1) := by decide +kernel
theorem dX6_ones_3 : decode cX6_ones 3 = .ok (.istore_n 2, 1) := by decide +kernel
theorem dX6_ones_4 : decode cX6_ones 4 = .ok (.iload_n 2, 1) := by decide +kernel
theorem dX6_ones_5 : decode cX6_ones 5 = .ok (.bipush 6, 2) := by decide +kernel
theorem dX6_ones_7 : decode cX6_ones 7 = .ok (.if_icmp .ge 17, 3) := by decide +kernel
theorem dX6_ones_10 : decode cX6_ones 10 = .ok (.iload_n 1, 1) := by decide +kernel
theorem dX6_ones_11 : decode cX6_ones 11 = .ok (.iload_n 0, 1) := by decide +kernel
theorem dX6_ones_12 : decode cX6_ones 12 = .ok (.iload_n 2, 1) := by decide +kernel
theorem dX6_ones_13 : decode cX6_ones 13 = .ok (.ishr, 1) := by decide +kernel
theorem dX6_ones_14 : decode cX6_ones 14 = .ok (.iconst 1, 1) := by decide +kernel
theorem dX6_ones_15 : decode cX6_ones 15 = .ok (.iand, 1) := by decide +kernel
theorem dX6_ones_16 : decode cX6_ones 16 = .ok (.iadd, 1) := by decide +kernel
theorem dX6_ones_17 : decode cX6_ones 17 = .ok (.istore_n 1, 1) := by decide +kernel
theorem dX6_ones_18 : decode cX6_ones 18 = .ok (.iinc 2 1, 3) := by decide +kernel
theorem dX6_ones_21 : decode cX6_ones 21 = .ok (.goto (-17), 3) := by decide +kernel
theorem dX6_ones_24 : decode cX6_ones 24 = .ok (.iload_n 1, 1) := by decide +kernel
theorem dX6_ones_25 : decode cX6_ones 25 = .ok (.ireturn, 1) := by decide +kernel
theorem dX6_pitched_0 : decode cX6_pitched 0 = .ok (.iconst 0, 1) := by decide +kernel
theorem dX6_pitched_1 : decode cX6_pitched 1 = .ok (.istore_n 1, 1) := by decide +kernel
theorem dX6_pitched_2 : decode cX6_pitched 2 = .ok (.iconst 0, 1) := by decide +kernel
theorem dX6_pitched_3 : decode cX6_pitched 3 = .ok (.istore_n 2, 1) := by decide +kernel
theorem dX6_pitched_4 : decode cX6_pitched 4 = .ok (.iload_n 2, 1) := by decide +kernel
theorem dX6_pitched_5 : decode cX6_pitched 5 = .ok (.aload_n 0, 1) := by decide +kernel
theorem dX6_pitched_6 : decode cX6_pitched 6 = .ok (.getfield 9, 3) := by decide +kernel
theorem dX6_pitched_9 : decode cX6_pitched 9 = .ok (.iconst 2, 1) := by decide +kernel
theorem dX6_pitched_10 : decode cX6_pitched 10 = .ok (.iaload, 1) := by decide +kernel
theorem dX6_pitched_11 : decode cX6_pitched 11 = .ok (.if_icmp .ge 28, 3) := by decide +kernel
theorem dX6_pitched_14 : decode cX6_pitched 14 = .ok (.iload_n 1, 1) := by decide +kernel
theorem dX6_pitched_15 : decode cX6_pitched 15 = .ok (.aload_n 0, 1) := by decide +kernel
theorem dX6_pitched_16 : decode cX6_pitched 16 = .ok (.iload_n 2, 1) := by decide +kernel
theorem dX6_pitched_17 : decode cX6_pitched 17 = .ok (.iconst 1, 1) := by decide +kernel
theorem dX6_pitched_18 : decode cX6_pitched 18 = .ok (.invokevirtual 76, 3) := by decide +kernel
theorem dX6_pitched_21 : decode cX6_pitched 21 = .ok (.ifCond .lt 9, 3) := by decide +kernel
theorem dX6_pitched_24 : decode cX6_pitched 24 = .ok (.iconst 1, 1) := by decide +kernel
theorem dX6_pitched_25 : decode cX6_pitched 25 = .ok (.iload_n 2, 1) := by decide +kernel
theorem dX6_pitched_26 : decode cX6_pitched 26 = .ok (.ishl, 1) := by decide +kernel
theorem dX6_pitched_27 : decode cX6_pitched 27 = .ok (.goto 4, 3) := by decide +kernel
theorem dX6_pitched_30 : decode cX6_pitched 30 = .ok (.iconst 0, 1) := by decide +kernel
theorem dX6_pitched_31 : decode cX6_pitched 31 = .ok (.ior, 1) := by decide +kernel
theorem dX6_pitched_32 : decode cX6_pitched 32 = .ok (.istore_n 1, 1) := by decide +kernel
theorem dX6_pitched_33 : decode cX6_pitched 33 = .ok (.iinc 2 1, 3) := by decide +kernel
theorem dX6_pitched_36 : decode cX6_pitched 36 = .ok (.goto (-32), 3) := by decide +kernel
theorem dX6_pitched_39 : decode cX6_pitched 39 = .ok (.iload_n 1, 1) := by decide +kernel
theorem dX6_pitched_40 : decode cX6_pitched 40 = .ok (.ireturn, 1) := by decide +kernel
theorem dX6_allWorn_0 : decode cX6_allWorn 0 = .ok (.iconst 0, 1) := by decide +kernel
theorem dX6_allWorn_1 : decode cX6_allWorn 1 = .ok (.istore_n 1, 1) := by decide +kernel
theorem dX6_allWorn_2 : decode cX6_allWorn 2 = .ok (.iconst 0, 1) := by decide +kernel
theorem dX6_allWorn_3 : decode cX6_allWorn 3 = .ok (.istore_n 2, 1) := by decide +kernel
theorem dX6_allWorn_4 : decode cX6_allWorn 4 = .ok (.iload_n 2, 1) := by decide +kernel
theorem dX6_allWorn_5 : decode cX6_allWorn 5 = .ok (.aload_n 0, 1) := by decide +kernel
theorem dX6_allWorn_6 : decode cX6_allWorn 6 = .ok (.getfield 9, 3) := by decide +kernel
theorem dX6_allWorn_9 : decode cX6_allWorn 9 = .ok (.iconst 2, 1) := by decide +kernel
theorem dX6_allWorn_10 : decode cX6_allWorn 10 = .ok (.iaload, 1) := by decide +kernel
theorem dX6_allWorn_11 : decode cX6_allWorn 11 = .ok (.if_icmp .ge 18, 3) := by decide +kernel
theorem dX6_allWorn_14 : decode cX6_allWorn 14 = .ok (.iload_n 1, 1) := by decide +kernel
theorem dX6_allWorn_15 : decode cX6_allWorn 15 = .ok (.aload_n 0, 1) := by decide +kernel
theorem dX6_allWorn_16 : decode cX6_allWorn 16 = .ok (.iload_n 2, 1) := by decide +kernel
theorem dX6_allWorn_17 : decode cX6_allWorn 17 = .ok (.iconst 2, 1) := by decide +kernel
theorem dX6_allWorn_18 : decode cX6_allWorn 18 = .ok (.invokevirtual 76, 3) := by decide +kernel
theorem dX6_allWorn_21 : decode cX6_allWorn 21 = .ok (.iadd, 1) := by decide +kernel
theorem dX6_allWorn_22 : decode cX6_allWorn 22 = .ok (.istore_n 1, 1) := by decide +kernel
theorem dX6_allWorn_23 : decode cX6_allWorn 23 = .ok (.iinc 2 1, 3) := by decide +kernel
theorem dX6_allWorn_26 : decode cX6_allWorn 26 = .ok (.goto (-22), 3) := by decide +kernel
theorem dX6_allWorn_29 : decode cX6_allWorn 29 = .ok (.iload_n 1, 1) := by decide +kernel
theorem dX6_allWorn_30 : decode cX6_allWorn 30 = .ok (.ireturn, 1) := by decide +kernel
theorem dX6_span_0 : decode cX6_span 0 = .ok (.iconst 0, 1) := by decide +kernel
theorem dX6_span_1 : decode cX6_span 1 = .ok (.istore_n 1, 1) := by decide +kernel
theorem dX6_span_2 : decode cX6_span 2 = .ok (.bipush 99, 2) := by decide +kernel
theorem dX6_span_4 : decode cX6_span 4 = .ok (.istore_n 2, 1) := by decide +kernel
theorem dX6_span_5 : decode cX6_span 5 = .ok (.iconst 0, 1) := by decide +kernel
theorem dX6_span_6 : decode cX6_span 6 = .ok (.istore_n 3, 1) := by decide +kernel
theorem dX6_span_7 : decode cX6_span 7 = .ok (.iload_n 3, 1) := by decide +kernel
theorem dX6_span_8 : decode cX6_span 8 = .ok (.bipush 25, 2) := by decide +kernel
theorem dX6_span_10 : decode cX6_span 10 = .ok (.if_icmp .ge 35, 3) := by decide +kernel
theorem dX6_span_13 : decode cX6_span 13 = .ok (.iload_n 1, 1) := by decide +kernel
theorem dX6_span_14 : decode cX6_span 14 = .ok (.aload_n 0, 1) := by decide +kernel
theorem dX6_span_15 : decode cX6_span 15 = .ok (.getfield 9, 3) := by decide +kernel
theorem dX6_span_18 : decode cX6_span 18 = .ok (.iconst 4, 1) := by decide +kernel
theorem dX6_span_19 : decode cX6_span 19 = .ok (.iload_n 3, 1) := by decide +kernel
theorem dX6_span_20 : decode cX6_span 20 = .ok (.iadd, 1) := by decide +kernel
theorem dX6_span_21 : decode cX6_span 21 = .ok (.iaload, 1) := by decide +kernel
theorem dX6_span_22 : decode cX6_span 22 = .ok (.invokestatic 64, 3) := by decide +kernel
theorem dX6_span_25 : decode cX6_span 25 = .ok (.istore_n 1, 1) := by decide +kernel
theorem dX6_span_26 : decode cX6_span 26 = .ok (.iload_n 2, 1) := by decide +kernel
theorem dX6_span_27 : decode cX6_span 27 = .ok (.aload_n 0, 1) := by decide +kernel
theorem dX6_span_28 : decode cX6_span 28 = .ok (.getfield 9, 3) := by decide +kernel
theorem dX6_span_31 : decode cX6_span 31 = .ok (.iconst 4, 1) := by decide +kernel
theorem dX6_span_32 : decode cX6_span 32 = .ok (.iload_n 3, 1) := by decide +kernel
theorem dX6_span_33 : decode cX6_span 33 = .ok (.iadd, 1) := by decide +kernel
theorem dX6_span_34 : decode cX6_span 34 = .ok (.iaload, 1) := by decide +kernel
theorem dX6_span_35 : decode cX6_span 35 = .ok (.invokestatic 58, 3) := by decide +kernel
theorem dX6_span_38 : decode cX6_span 38 = .ok (.istore_n 2, 1) := by decide +kernel
