theorem dX6_span_39 : decode cX6_span 39 = .ok (.iinc 3 1, 3) := by decide +kernel
theorem dX6_span_42 : decode cX6_span 42 = .ok (.goto (-35), 3) := by decide +kernel
theorem dX6_span_45 : decode cX6_span 45 = .ok (.iload_n 1, 1) := by decide +kernel
theorem dX6_span_46 : decode cX6_span 46 = .ok (.iload_n 2, 1) := by decide +kernel
theorem dX6_span_47 : decode cX6_span 47 = .ok (.isub, 1) := by decide +kernel
theorem dX6_span_48 : decode cX6_span 48 = .ok (.ireturn, 1) := by decide +kernel
theorem dX6_now_0 : decode cX6_now 0 = .ok (.iload_n 1, 1) := by decide +kernel
theorem dX6_now_1 : decode cX6_now 1 = .ok (.tableswitch 73 0 5 #[39, 46, 51, 58, 63, 68], 39) := by decide +kernel
theorem dX6_now_40 : decode cX6_now 40 = .ok (.aload_n 0, 1) := by decide +kernel
theorem dX6_now_41 : decode cX6_now 41 = .ok (.getfield 9, 3) := by decide +kernel
theorem dX6_now_44 : decode cX6_now 44 = .ok (.iconst 0, 1) := by decide +kernel
theorem dX6_now_45 : decode cX6_now 45 = .ok (.iaload, 1) := by decide +kernel
theorem dX6_now_46 : decode cX6_now 46 = .ok (.ireturn, 1) := by decide +kernel
theorem dX6_now_47 : decode cX6_now 47 = .ok (.aload_n 0, 1) := by decide +kernel
theorem dX6_now_48 : decode cX6_now 48 = .ok (.invokevirtual 166, 3) := by decide +kernel
theorem dX6_now_51 : decode cX6_now 51 = .ok (.ireturn, 1) := by decide +kernel
theorem dX6_now_52 : decode cX6_now 52 = .ok (.aload_n 0, 1) := by decide +kernel
theorem dX6_now_53 : decode cX6_now 53 = .ok (.getfield 9, 3) := by decide +kernel
theorem dX6_now_56 : decode cX6_now 56 = .ok (.iconst 3, 1) := by decide +kernel
theorem dX6_now_57 : decode cX6_now 57 = .ok (.iaload, 1) := by decide +kernel
theorem dX6_now_58 : decode cX6_now 58 = .ok (.ireturn, 1) := by decide +kernel
theorem dX6_now_59 : decode cX6_now 59 = .ok (.aload_n 0, 1) := by decide +kernel
theorem dX6_now_60 : decode cX6_now 60 = .ok (.invokevirtual 170, 3) := by decide +kernel
theorem dX6_now_63 : decode cX6_now 63 = .ok (.ireturn, 1) := by decide +kernel
theorem dX6_now_64 : decode cX6_now 64 = .ok (.aload_n 0, 1) := by decide +kernel
theorem dX6_now_65 : decode cX6_now 65 = .ok (.invokevirtual 173, 3) := by decide +kernel
theorem dX6_now_68 : decode cX6_now 68 = .ok (.ireturn, 1) := by decide +kernel
theorem dX6_now_69 : decode cX6_now 69 = .ok (.aload_n 0, 1) := by decide +kernel
theorem dX6_now_70 : decode cX6_now 70 = .ok (.invokevirtual 176, 3) := by decide +kernel
theorem dX6_now_73 : decode cX6_now 73 = .ok (.ireturn, 1) := by decide +kernel
theorem dX6_now_74 : decode cX6_now 74 = .ok (.aload_n 0, 1) := by decide +kernel
theorem dX6_now_75 : decode cX6_now 75 = .ok (.iconst 0, 1) := by decide +kernel
theorem dX6_now_76 : decode cX6_now 76 = .ok (.invokevirtual 93, 3) := by decide +kernel
theorem dX6_now_79 : decode cX6_now 79 = .ok (.ireturn, 1) := by decide +kernel
theorem dX6_canStep_0 : decode cX6_canStep 0 = .ok (.iload_n 1, 1) := by decide +kernel
theorem dX6_canStep_1 : decode cX6_canStep 1 = .ok (.iload_n 2, 1) := by decide +kernel
theorem dX6_canStep_2 : decode cX6_canStep 2 = .ok (.invokestatic 110, 3) := by decide +kernel
theorem dX6_canStep_5 : decode cX6_canStep 5 = .ok (.ifCond .eq 31, 3) := by decide +kernel
theorem dX6_canStep_8 : decode cX6_canStep 8 = .ok (.aload_n 0, 1) := by decide +kernel
theorem dX6_canStep_9 : decode cX6_canStep 9 = .ok (.getfield 9, 3) := by decide +kernel
theorem dX6_canStep_12 : decode cX6_canStep 12 = .ok (.iconst 4, 1) := by decide +kernel
theorem dX6_canStep_13 : decode cX6_canStep 13 = .ok (.iload_n 1, 1) := by decide +kernel
theorem dX6_canStep_14 : decode cX6_canStep 14 = .ok (.iadd, 1) := by decide +kernel
theorem dX6_canStep_15 : decode cX6_canStep 15 = .ok (.iaload, 1) := by decide +kernel
theorem dX6_canStep_16 : decode cX6_canStep 16 = .ok (.aload_n 0, 1) := by decide +kernel
theorem dX6_canStep_17 : decode cX6_canStep 17 = .ok (.getfield 9, 3) := by decide +kernel
theorem dX6_canStep_20 : decode cX6_canStep 20 = .ok (.iconst 4, 1) := by decide +kernel
theorem dX6_canStep_21 : decode cX6_canStep 21 = .ok (.iload_n 2, 1) := by decide +kernel
theorem dX6_canStep_22 : decode cX6_canStep 22 = .ok (.iadd, 1) := by decide +kernel
theorem dX6_canStep_23 : decode cX6_canStep 23 = .ok (.iaload, 1) := by decide +kernel
theorem dX6_canStep_24 : decode cX6_canStep 24 = .ok (.isub, 1) := by decide +kernel
theorem dX6_canStep_25 : decode cX6_canStep 25 = .ok (.invokestatic 67, 3) := by decide +kernel
theorem dX6_canStep_28 : decode cX6_canStep 28 = .ok (.iload_n 3, 1) := by decide +kernel
theorem dX6_canStep_29 : decode cX6_canStep 29 = .ok (.if_icmp .gt 7, 3) := by decide +kernel
theorem dX6_canStep_32 : decode cX6_canStep 32 = .ok (.iconst 1, 1) := by decide +kernel
theorem dX6_canStep_33 : decode cX6_canStep 33 = .ok (.goto 4, 3) := by decide +kernel
theorem dX6_canStep_36 : decode cX6_canStep 36 = .ok (.iconst 0, 1) := by decide +kernel
theorem dX6_canStep_37 : decode cX6_canStep 37 = .ok (.ireturn, 1) := by decide +kernel
theorem dX6_walk_0 : decode cX6_walk 0 = .ok (.iconst 0, 1) := by decide +kernel
theorem dX6_walk_1 : decode cX6_walk 1 = .ok (.istore_n 3, 1) := by decide +kernel
theorem dX6_walk_2 : decode cX6_walk 2 = .ok (.iload_n 3, 1) := by decide +kernel
theorem dX6_walk_3 : decode cX6_walk 3 = .ok (.bipush 25, 2) := by decide +kernel
theorem dX6_walk_5 : decode cX6_walk 5 = .ok (.if_icmp .ge 25, 3) := by decide +kernel
theorem dX6_walk_8 : decode cX6_walk 8 = .ok (.aload_n 0, 1) := by decide +kernel
theorem dX6_walk_9 : decode cX6_walk 9 = .ok (.getfield 22, 3) := by decide +kernel
theorem dX6_walk_12 : decode cX6_walk 12 = .ok (.iload_n 3, 1) := by decide +kernel
theorem dX6_walk_13 : decode cX6_walk 13 = .ok (.iload_n 3, 1) := by decide +kernel
theorem dX6_walk_14 : decode cX6_walk 14 = .ok (.iload_n 1, 1) := by decide +kernel
theorem dX6_walk_15 : decode cX6_walk 15 = .ok (.if_icmp .ne 7, 3) := by decide +kernel
theorem dX6_walk_18 : decode cX6_walk 18 = .ok (.iconst 0, 1) := by decide +kernel
theorem dX6_walk_19 : decode cX6_walk 19 = .ok (.goto 4, 3) := by decide +kernel
theorem dX6_walk_22 : decode cX6_walk 22 = .ok (.iconst (-1), 1) := by decide +kernel
theorem dX6_walk_23 : decode cX6_walk 23 = .ok (.iastore, 1) := by decide +kernel
theorem dX6_walk_24 : decode cX6_walk 24 = .ok (.iinc 3 1, 3) := by decide +kernel
theorem dX6_walk_27 : decode cX6_walk 27 = .ok (.goto (-25), 3) := by decide +kernel
theorem dX6_walk_30 : decode cX6_walk 30 = .ok (.iconst 0, 1) := by decide +kernel
theorem dX6_walk_31 : decode cX6_walk 31 = .ok (.istore_n 3, 1) := by decide +kernel
theorem dX6_walk_32 : decode cX6_walk 32 = .ok (.iload_n 3, 1) := by decide +kernel
theorem dX6_walk_33 : decode cX6_walk 33 = .ok (.bipush 25, 2) := by decide +kernel
theorem dX6_walk_35 : decode cX6_walk 35 = .ok (.if_icmp .ge 94, 3) := by decide +kernel
theorem dX6_walk_38 : decode cX6_walk 38 = .ok (.iconst 0, 1) := by decide +kernel
theorem dX6_walk_39 : decode cX6_walk 39 = .ok (.istore 4, 2) := by decide +kernel
theorem dX6_walk_41 : decode cX6_walk 41 = .ok (.iload 4, 2) := by decide +kernel
theorem dX6_walk_43 : decode cX6_walk 43 = .ok (.bipush 25, 2) := by decide +kernel
theorem dX6_walk_45 : decode cX6_walk 45 = .ok (.if_icmp .ge 78, 3) := by decide +kernel
theorem dX6_walk_48 : decode cX6_walk 48 = .ok (.iconst 0, 1) := by decide +kernel
theorem dX6_walk_49 : decode cX6_walk 49 = .ok (.istore 5, 2) := by decide +kernel
theorem dX6_walk_51 : decode cX6_walk 51 = .ok (.iload 5, 2) := by decide +kernel
theorem dX6_walk_53 : decode cX6_walk 53 = .ok (.bipush 25, 2) := by decide +kernel
theorem dX6_walk_55 : decode cX6_walk 55 = .ok (.if_icmp .ge 62, 3) := by decide +kernel
theorem dX6_walk_58 : decode cX6_walk 58 = .ok (.aload_n 0, 1) := by decide +kernel
theorem dX6_walk_59 : decode cX6_walk 59 = .ok (.getfield 22, 3) := by decide +kernel
theorem dX6_walk_62 : decode cX6_walk 62 = .ok (.iload 4, 2) := by decide +kernel
theorem dX6_walk_64 : decode cX6_walk 64 = .ok (.iaload, 1) := by decide +kernel
theorem dX6_walk_65 : decode cX6_walk 65 = .ok (.iload_n 3, 1) := by decide +kernel
theorem dX6_walk_66 : decode cX6_walk 66 = .ok (.if_icmp .ne 51, 3) := by decide +kernel
theorem dX6_walk_69 : decode cX6_walk 69 = .ok (.aload_n 0, 1) := by decide +kernel
theorem dX6_walk_70 : decode cX6_walk 70 = .ok (.getfield 22, 3) := by decide +kernel
theorem dX6_walk_73 : decode cX6_walk 73 = .ok (.iload 5, 2) := by decide +kernel
theorem dX6_walk_75 : decode cX6_walk 75 = .ok (.aload_n 0, 1) := by decide +kernel
theorem dX6_walk_76 : decode cX6_walk 76 = .ok (.getfield 22, 3) := by decide +kernel
theorem dX6_walk_79 : decode cX6_walk 79 = .ok (.iload 5, 2) := by decide +kernel
theorem dX6_walk_81 : decode cX6_walk 81 = .ok (.iaload, 1) := by decide +kernel
theorem dX6_walk_82 : decode cX6_walk 82 = .ok (.ifCond .ge 21, 3) := by decide +kernel
theorem dX6_walk_85 : decode cX6_walk 85 = .ok (.aload_n 0, 1) := by decide +kernel
theorem dX6_walk_86 : decode cX6_walk 86 = .ok (.iload 4, 2) := by decide +kernel
theorem dX6_walk_88 : decode cX6_walk 88 = .ok (.iload 5, 2) := by decide +kernel
theorem dX6_walk_90 : decode cX6_walk 90 = .ok (.iload_n 2, 1) := by decide +kernel
theorem dX6_walk_91 : decode cX6_walk 91 = .ok (.invokevirtual 179, 3) := by decide +kernel
theorem dX6_walk_94 : decode cX6_walk 94 = .ok (.ifCond .eq 9, 3) := by decide +kernel
theorem dX6_walk_97 : decode cX6_walk 97 = .ok (.iload_n 3, 1) := by decide +kernel
theorem dX6_walk_98 : decode cX6_walk 98 = .ok (.iconst 1, 1) := by decide +kernel
theorem dX6_walk_99 : decode cX6_walk 99 = .ok (.iadd, 1) := by decide +kernel
theorem dX6_walk_100 : decode cX6_walk 100 = .ok (.goto 10, 3) := by decide +kernel
theorem dX6_walk_103 : decode cX6_walk 103 = .ok (.aload_n 0, 1) := by decide +kernel
theorem dX6_walk_104 : decode cX6_walk 104 = .ok (.getfield 22, 3) := by decide +kernel
theorem dX6_walk_107 : decode cX6_walk 107 = .ok (.iload 5, 2) := by decide +kernel
theorem dX6_walk_109 : decode cX6_walk 109 = .ok (.iaload, 1) := by decide +kernel
theorem dX6_walk_110 : decode cX6_walk 110 = .ok (.iastore, 1) := by decide +kernel
theorem dX6_walk_111 : decode cX6_walk 111 = .ok (.iinc 5 1, 3) := by decide +kernel
theorem dX6_walk_114 : decode cX6_walk 114 = .ok (.goto (-63), 3) := by decide +kernel
theorem dX6_walk_117 : decode cX6_walk 117 = .ok (.iinc 4 1, 3) := by decide +kernel
theorem dX6_walk_120 : decode cX6_walk 120 = .ok (.goto (-79), 3) := by decide +kernel
theorem dX6_walk_123 : decode cX6_walk 123 = .ok (.iinc 3 1, 3) := by decide +kernel
theorem dX6_walk_126 : decode cX6_walk 126 = .ok (.goto (-94), 3) := by decide +kernel
theorem dX6_walk_129 : decode cX6_walk 129 = .ok (.return_, 1) := by decide +kernel
theorem dX6_areWay_0 : decode cX6_areWay 0 = .ok (.iload_n 0, 1) := by decide +kernel
theorem dX6_areWay_1 : decode cX6_areWay 1 = .ok (.invokestatic 83, 3) := by decide +kernel
theorem dX6_areWay_4 : decode cX6_areWay 4 = .ok (.ifCond .eq 21, 3) := by decide +kernel
theorem dX6_areWay_7 : decode cX6_areWay 7 = .ok (.iload_n 1, 1) := by decide +kernel
theorem dX6_areWay_8 : decode cX6_areWay 8 = .ok (.invokestatic 83, 3) := by decide +kernel
theorem dX6_areWay_11 : decode cX6_areWay 11 = .ok (.ifCond .eq 14, 3) := by decide +kernel
theorem dX6_areWay_14 : decode cX6_areWay 14 = .ok (.iload_n 2, 1) := by decide +kernel
theorem dX6_areWay_15 : decode cX6_areWay 15 = .ok (.invokestatic 87, 3) := by decide +kernel
theorem dX6_areWay_18 : decode cX6_areWay 18 = .ok (.ifCond .eq 7, 3) := by decide +kernel
theorem dX6_areWay_21 : decode cX6_areWay 21 = .ok (.iconst 1, 1) := by decide +kernel
theorem dX6_areWay_22 : decode cX6_areWay 22 = .ok (.goto 4, 3) := by decide +kernel
theorem dX6_areWay_25 : decode cX6_areWay 25 = .ok (.iconst 0, 1) := by decide +kernel
theorem dX6_areWay_26 : decode cX6_areWay 26 = .ok (.ireturn, 1) := by decide +kernel
theorem dX6_way_0 : decode cX6_way 0 = .ok (.iload_n 1, 1) := by decide +kernel
theorem dX6_way_1 : decode cX6_way 1 = .ok (.iload_n 2, 1) := by decide +kernel
theorem dX6_way_2 : decode cX6_way 2 = .ok (.iload_n 3, 1) := by decide +kernel
theorem dX6_way_3 : decode cX6_way 3 = .ok (.invokestatic 183, 3) := by decide +kernel
theorem dX6_way_6 : decode cX6_way 6 = .ok (.ifCond .ne 9, 3) := by decide +kernel
theorem dX6_way_9 : decode cX6_way 9 = .ok (.aload_n 0, 1) := by decide +kernel
theorem dX6_way_10 : decode cX6_way 10 = .ok (.iconst 0, 1) := by decide +kernel
theorem dX6_way_11 : decode cX6_way 11 = .ok (.invokevirtual 93, 3) := by decide +kernel
theorem dX6_way_14 : decode cX6_way 14 = .ok (.ireturn, 1) := by decide +kernel
theorem dX6_way_15 : decode cX6_way 15 = .ok (.aload_n 0, 1) := by decide +kernel
theorem dX6_way_16 : decode cX6_way 16 = .ok (.iload_n 1, 1) := by decide +kernel
theorem dX6_way_17 : decode cX6_way 17 = .ok (.iload_n 3, 1) := by decide +kernel
theorem dX6_way_18 : decode cX6_way 18 = .ok (.invokevirtual 186, 3) := by decide +kernel
theorem dX6_way_21 : decode cX6_way 21 = .ok (.aload_n 0, 1) := by decide +kernel
theorem dX6_way_22 : decode cX6_way 22 = .ok (.getfield 22, 3) := by decide +kernel
theorem dX6_way_25 : decode cX6_way 25 = .ok (.iload_n 2, 1) := by decide +kernel
theorem dX6_way_26 : decode cX6_way 26 = .ok (.iaload, 1) := by decide +kernel
theorem dX6_way_27 : decode cX6_way 27 = .ok (.ifCond .ge 11, 3) := by decide +kernel
theorem dX6_way_30 : decode cX6_way 30 = .ok (.aload_n 0, 1) := by decide +kernel
theorem dX6_way_31 : decode cX6_way 31 = .ok (.iconst 3, 1) := by decide +kernel
theorem dX6_way_32 : decode cX6_way 32 = .ok (.invokevirtual 93, 3) := by decide +kernel
theorem dX6_way_35 : decode cX6_way 35 = .ok (.goto 9, 3) := by decide +kernel
theorem dX6_way_38 : decode cX6_way 38 = .ok (.aload_n 0, 1) := by decide +kernel
theorem dX6_way_39 : decode cX6_way 39 = .ok (.getfield 22, 3) := by decide +kernel
theorem dX6_way_42 : decode cX6_way 42 = .ok (.iload_n 2, 1) := by decide +kernel
theorem dX6_way_43 : decode cX6_way 43 = .ok (.iaload, 1) := by decide +kernel
theorem dX6_way_44 : decode cX6_way 44 = .ok (.ireturn, 1) := by decide +kernel
theorem dX6_climb_0 : decode cX6_climb 0 = .ok (.iload_n 1, 1) := by decide +kernel
theorem dX6_climb_1 : decode cX6_climb 1 = .ok (.iload_n 2, 1) := by decide +kernel
theorem dX6_climb_2 : decode cX6_climb 2 = .ok (.iconst 0, 1) := by decide +kernel
theorem dX6_climb_3 : decode cX6_climb 3 = .ok (.invokestatic 183, 3) := by decide +kernel
theorem dX6_climb_6 : decode cX6_climb 6 = .ok (.ifCond .ne 9, 3) := by decide +kernel
theorem dX6_climb_9 : decode cX6_climb 9 = .ok (.aload_n 0, 1) := by decide +kernel
theorem dX6_climb_10 : decode cX6_climb 10 = .ok (.iconst 0, 1) := by decide +kernel
theorem dX6_climb_11 : decode cX6_climb 11 = .ok (.invokevirtual 93, 3) := by decide +kernel
theorem dX6_climb_14 : decode cX6_climb 14 = .ok (.ireturn, 1) := by decide +kernel
theorem dX6_climb_15 : decode cX6_climb 15 = .ok (.iconst (-1), 1) := by decide +kernel
theorem dX6_climb_16 : decode cX6_climb 16 = .ok (.istore_n 3, 1) := by decide +kernel
theorem dX6_climb_17 : decode cX6_climb 17 = .ok (.iinc 3 1, 3) := by decide +kernel
theorem dX6_climb_20 : decode cX6_climb 20 = .ok (.aload_n 0, 1) := by decide +kernel
theorem dX6_climb_21 : decode cX6_climb 21 = .ok (.iload_n 1, 1) := by decide +kernel
theorem dX6_climb_22 : decode cX6_climb 22 = .ok (.iload_n 3, 1) := by decide +kernel
theorem dX6_climb_23 : decode cX6_climb 23 = .ok (.invokevirtual 186, 3) := by decide +kernel
theorem dX6_climb_26 : decode cX6_climb 26 = .ok (.aload_n 0, 1) := by decide +kernel
theorem dX6_climb_27 : decode cX6_climb 27 = .ok (.getfield 22, 3) := by decide +kernel
theorem dX6_climb_30 : decode cX6_climb 30 = .ok (.iload_n 2, 1) := by decide +kernel
theorem dX6_climb_31 : decode cX6_climb 31 = .ok (.iaload, 1) := by decide +kernel
theorem dX6_climb_32 : decode cX6_climb 32 = .ok (.ifCond .lt (-15), 3) := by decide +kernel
theorem dX6_climb_35 : decode cX6_climb 35 = .ok (.iload_n 3, 1) := by decide +kernel
theorem dX6_climb_36 : decode cX6_climb 36 = .ok (.ireturn, 1) := by decide +kernel
theorem dX6_reach_0 : decode cX6_reach 0 = .ok (.iload_n 1, 1) := by decide +kernel
theorem dX6_reach_1 : decode cX6_reach 1 = .ok (.iload_n 1, 1) := by decide +kernel
theorem dX6_reach_2 : decode cX6_reach 2 = .ok (.iload_n 2, 1) := by decide +kernel
theorem dX6_reach_3 : decode cX6_reach 3 = .ok (.invokestatic 183, 3) := by decide +kernel
theorem dX6_reach_6 : decode cX6_reach 6 = .ok (.ifCond .ne 9, 3) := by decide +kernel
theorem dX6_reach_9 : decode cX6_reach 9 = .ok (.aload_n 0, 1) := by decide +kernel
theorem dX6_reach_10 : decode cX6_reach 10 = .ok (.iconst 0, 1) := by decide +kernel
theorem dX6_reach_11 : decode cX6_reach 11 = .ok (.invokevirtual 93, 3) := by decide +kernel
theorem dX6_reach_14 : decode cX6_reach 14 = .ok (.ireturn, 1) := by decide +kernel
theorem dX6_reach_15 : decode cX6_reach 15 = .ok (.aload_n 0, 1) := by decide +kernel
theorem dX6_reach_16 : decode cX6_reach 16 = .ok (.iload_n 1, 1) := by decide +kernel
theorem dX6_reach_17 : decode cX6_reach 17 = .ok (.iload_n 2, 1) := by decide +kernel
theorem dX6_reach_18 : decode cX6_reach 18 = .ok (.invokevirtual 186, 3) := by decide +kernel
theorem dX6_reach_21 : decode cX6_reach 21 = .ok (.iconst 0, 1) := by decide +kernel
theorem dX6_reach_22 : decode cX6_reach 22 = .ok (.istore_n 3, 1) := by decide +kernel
theorem dX6_reach_23 : decode cX6_reach 23 = .ok (.iconst 0, 1) := by decide +kernel
theorem dX6_reach_24 : decode cX6_reach 24 = .ok (.istore 4, 2) := by decide +kernel
theorem dX6_reach_26 : decode cX6_reach 26 = .ok (.iload 4, 2) := by decide +kernel
theorem dX6_reach_28 : decode cX6_reach 28 = .ok (.bipush 25, 2) := by decide +kernel
theorem dX6_reach_30 : decode cX6_reach 30 = .ok (.if_icmp .ge 30, 3) := by decide +kernel
theorem dX6_reach_33 : decode cX6_reach 33 = .ok (.iload_n 3, 1) := by decide +kernel
theorem dX6_reach_34 : decode cX6_reach 34 = .ok (.aload_n 0, 1) := by decide +kernel
theorem dX6_reach_35 : decode cX6_reach 35 = .ok (.getfield 22, 3) := by decide +kernel
theorem dX6_reach_38 : decode cX6_reach 38 = .ok (.iload 4, 2) := by decide +kernel
theorem dX6_reach_40 : decode cX6_reach 40 = .ok (.iaload, 1) := by decide +kernel
theorem dX6_reach_41 : decode cX6_reach 41 = .ok (.ifCond .lt 10, 3) := by decide +kernel
theorem dX6_reach_44 : decode cX6_reach 44 = .ok (.iconst 1, 1) := by decide +kernel
theorem dX6_reach_45 : decode cX6_reach 45 = .ok (.iload 4, 2) := by decide +kernel
theorem dX6_reach_47 : decode cX6_reach 47 = .ok (.ishl, 1) := by decide +kernel
theorem dX6_reach_48 : decode cX6_reach 48 = .ok (.goto 4, 3) := by decide +kernel
theorem dX6_reach_51 : decode cX6_reach 51 = .ok (.iconst 0, 1) := by decide +kernel
theorem dX6_reach_52 : decode cX6_reach 52 = .ok (.ior, 1) := by decide +kernel
theorem dX6_reach_53 : decode cX6_reach 53 = .ok (.istore_n 3, 1) := by decide +kernel
theorem dX6_reach_54 : decode cX6_reach 54 = .ok (.iinc 4 1, 3) := by decide +kernel
theorem dX6_reach_57 : decode cX6_reach 57 = .ok (.goto (-31), 3) := by decide +kernel
theorem dX6_reach_60 : decode cX6_reach 60 = .ok (.iload_n 3, 1) := by decide +kernel
theorem dX6_reach_61 : decode cX6_reach 61 = .ok (.ireturn, 1) := by decide +kernel
theorem dX6_drink_0 : decode cX6_drink 0 = .ok (.iload_n 1, 1) := by decide +kernel
theorem dX6_drink_1 : decode cX6_drink 1 = .ok (.iload_n 1, 1) := by decide +kernel
theorem dX6_drink_2 : decode cX6_drink 2 = .ok (.iload_n 2, 1) := by decide +kernel
theorem dX6_drink_3 : decode cX6_drink 3 = .ok (.invokestatic 183, 3) := by decide +kernel
theorem dX6_drink_6 : decode cX6_drink 6 = .ok (.ifCond .ne 9, 3) := by decide +kernel
theorem dX6_drink_9 : decode cX6_drink 9 = .ok (.aload_n 0, 1) := by decide +kernel
theorem dX6_drink_10 : decode cX6_drink 10 = .ok (.iconst 0, 1) := by decide +kernel
theorem dX6_drink_11 : decode cX6_drink 11 = .ok (.invokevirtual 93, 3) := by decide +kernel
theorem dX6_drink_14 : decode cX6_drink 14 = .ok (.ireturn, 1) := by decide +kernel
theorem dX6_drink_15 : decode cX6_drink 15 = .ok (.aload_n 0, 1) := by decide +kernel
theorem dX6_drink_16 : decode cX6_drink 16 = .ok (.iload_n 1, 1) := by decide +kernel
theorem dX6_drink_17 : decode cX6_drink 17 = .ok (.iload_n 2, 1) := by decide +kernel
theorem dX6_drink_18 : decode cX6_drink 18 = .ok (.invokevirtual 186, 3) := by decide +kernel
theorem dX6_drink_21 : decode cX6_drink 21 = .ok (.iconst (-1), 1) := by decide +kernel
theorem dX6_drink_22 : decode cX6_drink 22 = .ok (.istore_n 3, 1) := by decide +kernel
theorem dX6_drink_23 : decode cX6_drink 23 = .ok (.iconst 0, 1) := by decide +kernel
theorem dX6_drink_24 : decode cX6_drink 24 = .ok (.istore 4, 2) := by decide +kernel
theorem dX6_drink_26 : decode cX6_drink 26 = .ok (.iload 4, 2) := by decide +kernel
theorem dX6_drink_28 : decode cX6_drink 28 = .ok (.bipush 25, 2) := by decide +kernel
theorem dX6_drink_30 : decode cX6_drink 30 = .ok (.if_icmp .ge 67, 3) := by decide +kernel
theorem dX6_drink_33 : decode cX6_drink 33 = .ok (.aload_n 0, 1) := by decide +kernel
theorem dX6_drink_34 : decode cX6_drink 34 = .ok (.iload 4, 2) := by decide +kernel
theorem dX6_drink_36 : decode cX6_drink 36 = .ok (.invokevirtual 96, 3) := by decide +kernel
theorem dX6_drink_39 : decode cX6_drink 39 = .ok (.ifCond .eq 17, 3) := by decide +kernel
theorem dX6_drink_42 : decode cX6_drink 42 = .ok (.aload_n 0, 1) := by decide +kernel
theorem dX6_drink_43 : decode cX6_drink 43 = .ok (.getfield 22, 3) := by decide +kernel
theorem dX6_drink_46 : decode cX6_drink 46 = .ok (.iload 4, 2) := by decide +kernel
theorem dX6_drink_48 : decode cX6_drink 48 = .ok (.iaload, 1) := by decide +kernel
theorem dX6_drink_49 : decode cX6_drink 49 = .ok (.ifCond .lt 7, 3) := by decide +kernel
theorem dX6_drink_52 : decode cX6_drink 52 = .ok (.iconst 1, 1) := by decide +kernel
theorem dX6_drink_53 : decode cX6_drink 53 = .ok (.goto 4, 3) := by decide +kernel
theorem dX6_drink_56 : decode cX6_drink 56 = .ok (.iconst 0, 1) := by decide +kernel
theorem dX6_drink_57 : decode cX6_drink 57 = .ok (.istore 5, 2) := by decide +kernel
theorem dX6_drink_59 : decode cX6_drink 59 = .ok (.iload 5, 2) := by decide +kernel
theorem dX6_drink_61 : decode cX6_drink 61 = .ok (.ifCond .eq 28, 3) := by decide +kernel
theorem dX6_drink_64 : decode cX6_drink 64 = .ok (.iload_n 3, 1) := by decide +kernel
theorem dX6_drink_65 : decode cX6_drink 65 = .ok (.ifCond .lt 19, 3) := by decide +kernel
theorem dX6_drink_68 : decode cX6_drink 68 = .ok (.aload_n 0, 1) := by decide +kernel
theorem dX6_drink_69 : decode cX6_drink 69 = .ok (.getfield 22, 3) := by decide +kernel
theorem dX6_drink_72 : decode cX6_drink 72 = .ok (.iload 4, 2) := by decide +kernel
theorem dX6_drink_74 : decode cX6_drink 74 = .ok (.iaload, 1) := by decide +kernel
theorem dX6_drink_75 : decode cX6_drink 75 = .ok (.aload_n 0, 1) := by decide +kernel
theorem dX6_drink_76 : decode cX6_drink 76 = .ok (.getfield 22, 3) := by decide +kernel
theorem dX6_drink_79 : decode cX6_drink 79 = .ok (.iload_n 3, 1) := by decide +kernel
theorem dX6_drink_80 : decode cX6_drink 80 = .ok (.iaload, 1) := by decide +kernel
theorem dX6_drink_81 : decode cX6_drink 81 = .ok (.if_icmp .ge 8, 3) := by decide +kernel
theorem dX6_drink_84 : decode cX6_drink 84 = .ok (.iload 4, 2) := by decide +kernel
theorem dX6_drink_86 : decode cX6_drink 86 = .ok (.goto 4, 3) := by decide +kernel
theorem dX6_drink_89 : decode cX6_drink 89 = .ok (.iload_n 3, 1) := by decide +kernel
theorem dX6_drink_90 : decode cX6_drink 90 = .ok (.istore_n 3, 1) := by decide +kernel
theorem dX6_drink_91 : decode cX6_drink 91 = .ok (.iinc 4 1, 3) := by decide +kernel
theorem dX6_drink_94 : decode cX6_drink 94 = .ok (.goto (-68), 3) := by decide +kernel
theorem dX6_drink_97 : decode cX6_drink 97 = .ok (.iload_n 3, 1) := by decide +kernel
theorem dX6_drink_98 : decode cX6_drink 98 = .ok (.ifCond .ge 11, 3) := by decide +kernel
theorem dX6_drink_101 : decode cX6_drink 101 = .ok (.aload_n 0, 1) := by decide +kernel
theorem dX6_drink_102 : decode cX6_drink 102 = .ok (.iconst 3, 1) := by decide +kernel
theorem dX6_drink_103 : decode cX6_drink 103 = .ok (.invokevirtual 93, 3) := by decide +kernel
theorem dX6_drink_106 : decode cX6_drink 106 = .ok (.goto 4, 3) := by decide +kernel
theorem dX6_drink_109 : decode cX6_drink 109 = .ok (.iload_n 3, 1) := by decide +kernel
theorem dX6_drink_110 : decode cX6_drink 110 = .ok (.ireturn, 1) := by decide +kernel
theorem dX6_ahead_0 : decode cX6_ahead 0 = .ok (.iload_n 1, 1) := by decide +kernel
theorem dX6_ahead_1 : decode cX6_ahead 1 = .ok (.invokestatic 83, 3) := by decide +kernel
theorem dX6_ahead_4 : decode cX6_ahead 4 = .ok (.ifCond .eq 15, 3) := by decide +kernel
theorem dX6_ahead_7 : decode cX6_ahead 7 = .ok (.iload_n 2, 1) := by decide +kernel
theorem dX6_ahead_8 : decode cX6_ahead 8 = .ok (.i2l, 1) := by decide +kernel
theorem dX6_ahead_9 : decode cX6_ahead 9 = .ok (.lconst 0, 1) := by decide +kernel
theorem dX6_ahead_10 : decode cX6_ahead 10 = .ok (.ldc2_w 189, 3) := by decide +kernel
theorem dX6_ahead_13 : decode cX6_ahead 13 = .ok (.invokestatic 48, 3) := by decide +kernel
theorem dX6_ahead_16 : decode cX6_ahead 16 = .ok (.ifCond .ne 9, 3) := by decide +kernel
theorem dX6_ahead_19 : decode cX6_ahead 19 = .ok (.aload_n 0, 1) := by decide +kernel
theorem dX6_ahead_20 : decode cX6_ahead 20 = .ok (.iconst 0, 1) := by decide +kernel
theorem dX6_ahead_21 : decode cX6_ahead 21 = .ok (.invokevirtual 93, 3) := by decide +kernel
theorem dX6_ahead_24 : decode cX6_ahead 24 = .ok (.ireturn, 1) := by decide +kernel
theorem dX6_ahead_25 : decode cX6_ahead 25 = .ok (.aload_n 0, 1) := by decide +kernel
theorem dX6_ahead_26 : decode cX6_ahead 26 = .ok (.invokevirtual 191, 3) := by decide +kernel
theorem dX6_ahead_29 : decode cX6_ahead 29 = .ok (.aload_n 0, 1) := by decide +kernel
theorem dX6_ahead_30 : decode cX6_ahead 30 = .ok (.iload_n 2, 1) := by decide +kernel
theorem dX6_ahead_31 : decode cX6_ahead 31 = .ok (.invokevirtual 162, 3) := by decide +kernel
theorem dX6_ahead_34 : decode cX6_ahead 34 = .ok (.aload_n 0, 1) := by decide +kernel
theorem dX6_ahead_35 : decode cX6_ahead 35 = .ok (.getfield 9, 3) := by decide +kernel
theorem dX6_ahead_38 : decode cX6_ahead 38 = .ok (.iconst 4, 1) := by decide +kernel
theorem dX6_ahead_39 : decode cX6_ahead 39 = .ok (.iload_n 1, 1) := by decide +kernel
theorem dX6_ahead_40 : decode cX6_ahead 40 = .ok (.iadd, 1) := by decide +kernel
theorem dX6_ahead_41 : decode cX6_ahead 41 = .ok (.iaload, 1) := by decide +kernel
theorem dX6_ahead_42 : decode cX6_ahead 42 = .ok (.istore_n 3, 1) := by decide +kernel
theorem dX6_ahead_43 : decode cX6_ahead 43 = .ok (.aload_n 0, 1) := by decide +kernel
theorem dX6_ahead_44 : decode cX6_ahead 44 = .ok (.invokevirtual 194, 3) := by decide +kernel
theorem dX6_ahead_47 : decode cX6_ahead 47 = .ok (.iload_n 3, 1) := by decide +kernel
theorem dX6_ahead_48 : decode cX6_ahead 48 = .ok (.ireturn, 1) := by decide +kernel
theorem dX6_felt_0 : decode cX6_felt 0 = .ok (.aload_n 0, 1) := by decide +kernel
theorem dX6_felt_1 : decode cX6_felt 1 = .ok (.iload_n 1, 1) := by decide +kernel
theorem dX6_felt_2 : decode cX6_felt 2 = .ok (.invokevirtual 127, 3) := by decide +kernel
theorem dX6_felt_5 : decode cX6_felt 5 = .ok (.ifCond .eq 27, 3) := by decide +kernel
theorem dX6_felt_8 : decode cX6_felt 8 = .ok (.iload_n 2, 1) := by decide +kernel
theorem dX6_felt_9 : decode cX6_felt 9 = .ok (.i2l, 1) := by decide +kernel
theorem dX6_felt_10 : decode cX6_felt 10 = .ok (.lconst 0, 1) := by decide +kernel
theorem dX6_felt_11 : decode cX6_felt 11 = .ok (.ldc2_w 113, 3) := by decide +kernel
theorem dX6_felt_14 : decode cX6_felt 14 = .ok (.invokestatic 48, 3) := by decide +kernel
theorem dX6_felt_17 : decode cX6_felt 17 = .ok (.ifCond .eq 15, 3) := by decide +kernel
theorem dX6_felt_20 : decode cX6_felt 20 = .ok (.iload_n 3, 1) := by decide +kernel
theorem dX6_felt_21 : decode cX6_felt 21 = .ok (.i2l, 1) := by decide +kernel
theorem dX6_felt_22 : decode cX6_felt 22 = .ok (.lconst 0, 1) := by decide +kernel
theorem dX6_felt_23 : decode cX6_felt 23 = .ok (.ldc2_w 189, 3) := by decide +kernel
theorem dX6_felt_26 : decode cX6_felt 26 = .ok (.invokestatic 48, 3) := by decide +kernel
theorem dX6_felt_29 : decode cX6_felt 29 = .ok (.ifCond .ne 9, 3) := by decide +kernel
theorem dX6_felt_32 : decode cX6_felt 32 = .ok (.aload_n 0, 1) := by decide +kernel
theorem dX6_felt_33 : decode cX6_felt 33 = .ok (.iconst 0, 1) := by decide +kernel
theorem dX6_felt_34 : decode cX6_felt 34 = .ok (.invokevirtual 93, 3) := by decide +kernel
theorem dX6_felt_37 : decode cX6_felt 37 = .ok (.ireturn, 1) := by decide +kernel
theorem dX6_felt_38 : decode cX6_felt 38 = .ok (.aload_n 0, 1) := by decide +kernel
theorem dX6_felt_39 : decode cX6_felt 39 = .ok (.invokevirtual 191, 3) := by decide +kernel
theorem dX6_felt_42 : decode cX6_felt 42 = .ok (.aload_n 0, 1) := by decide +kernel
theorem dX6_felt_43 : decode cX6_felt 43 = .ok (.iload_n 3, 1) := by decide +kernel
theorem dX6_felt_44 : decode cX6_felt 44 = .ok (.invokevirtual 162, 3) := by decide +kernel
theorem dX6_felt_47 : decode cX6_felt 47 = .ok (.aload_n 0, 1) := by decide +kernel
theorem dX6_felt_48 : decode cX6_felt 48 = .ok (.iload_n 1, 1) := by decide +kernel
theorem dX6_felt_49 : decode cX6_felt 49 = .ok (.iconst 4, 1) := by decide +kernel
theorem dX6_felt_50 : decode cX6_felt 50 = .ok (.iload_n 2, 1) := by decide +kernel
theorem dX6_felt_51 : decode cX6_felt 51 = .ok (.iadd, 1) := by decide +kernel
theorem dX6_felt_52 : decode cX6_felt 52 = .ok (.invokevirtual 76, 3) := by decide +kernel
theorem dX6_felt_55 : decode cX6_felt 55 = .ok (.istore 4, 2) := by decide +kernel
theorem dX6_felt_57 : decode cX6_felt 57 = .ok (.aload_n 0, 1) := by decide +kernel
theorem dX6_felt_58 : decode cX6_felt 58 = .ok (.invokevirtual 194, 3) := by decide +kernel
theorem dX6_felt_61 : decode cX6_felt 61 = .ok (.iload 4, 2) := by decide +kernel
theorem dX6_felt_63 : decode cX6_felt 63 = .ok (.ireturn, 1) := by decide +kernel
theorem dX6_orNone_0 : decode cX6_orNone 0 = .ok (.iload_n 1, 1) := by decide +kernel
theorem dX6_orNone_1 : decode cX6_orNone 1 = .ok (.iload_n 2, 1) := by decide +kernel
theorem dX6_orNone_2 : decode cX6_orNone 2 = .ok (.if_icmp .gt 7, 3) := by decide +kernel
theorem dX6_orNone_5 : decode cX6_orNone 5 = .ok (.iload_n 1, 1) := by decide +kernel
theorem dX6_orNone_6 : decode cX6_orNone 6 = .ok (.goto 8, 3) := by decide +kernel
theorem dX6_orNone_9 : decode cX6_orNone 9 = .ok (.aload_n 0, 1) := by decide +kernel
theorem dX6_orNone_10 : decode cX6_orNone 10 = .ok (.iconst 3, 1) := by decide +kernel
theorem dX6_orNone_11 : decode cX6_orNone 11 = .ok (.invokevirtual 93, 3) := by decide +kernel
theorem dX6_orNone_14 : decode cX6_orNone 14 = .ok (.ireturn, 1) := by decide +kernel
theorem dX6_isThrough_0 : decode cX6_isThrough 0 = .ok (.aload_n 0, 1) := by decide +kernel
theorem dX6_isThrough_1 : decode cX6_isThrough 1 = .ok (.iload_n 1, 1) := by decide +kernel
theorem dX6_isThrough_2 : decode cX6_isThrough 2 = .ok (.iload_n 3, 1) := by decide +kernel
theorem dX6_isThrough_3 : decode cX6_isThrough 3 = .ok (.invokevirtual 186, 3) := by decide +kernel
theorem dX6_isThrough_6 : decode cX6_isThrough 6 = .ok (.aload_n 0, 1) := by decide +kernel
theorem dX6_isThrough_7 : decode cX6_isThrough 7 = .ok (.getfield 22, 3) := by decide +kernel
theorem dX6_isThrough_10 : decode cX6_isThrough 10 = .ok (.iload_n 2, 1) := by decide +kernel
theorem dX6_isThrough_11 : decode cX6_isThrough 11 = .ok (.iaload, 1) := by decide +kernel
theorem dX6_isThrough_12 : decode cX6_isThrough 12 = .ok (.ifCond .lt 7, 3) := by decide +kernel
theorem dX6_isThrough_15 : decode cX6_isThrough 15 = .ok (.iconst 1, 1) := by decide +kernel
theorem dX6_isThrough_16 : decode cX6_isThrough 16 = .ok (.goto 4, 3) := by decide +kernel
theorem dX6_isThrough_19 : decode cX6_isThrough 19 = .ok (.iconst 0, 1) := by decide +kernel
theorem dX6_isThrough_20 : decode cX6_isThrough 20 = .ok (.ireturn, 1) := by decide +kernel
theorem dX6_when_0 : decode cX6_when 0 = .ok (.iload_n 1, 1) := by decide +kernel
theorem dX6_when_1 : decode cX6_when 1 = .ok (.iload_n 2, 1) := by decide +kernel
theorem dX6_when_2 : decode cX6_when 2 = .ok (.iload_n 3, 1) := by decide +kernel
theorem dX6_when_3 : decode cX6_when 3 = .ok (.invokestatic 183, 3) := by decide +kernel
theorem dX6_when_6 : decode cX6_when 6 = .ok (.ifCond .ne 9, 3) := by decide +kernel
theorem dX6_when_9 : decode cX6_when 9 = .ok (.aload_n 0, 1) := by decide +kernel
theorem dX6_when_10 : decode cX6_when 10 = .ok (.iconst 0, 1) := by decide +kernel
theorem dX6_when_11 : decode cX6_when 11 = .ok (.invokevirtual 93, 3) := by decide +kernel
theorem dX6_when_14 : decode cX6_when 14 = .ok (.ireturn, 1) := by decide +kernel
theorem dX6_when_15 : decode cX6_when 15 = .ok (.aload_n 0, 1) := by decide +kernel
theorem dX6_when_16 : decode cX6_when 16 = .ok (.invokevirtual 191, 3) := by decide +kernel
theorem dX6_when_19 : decode cX6_when 19 = .ok (.iconst 0, 1) := by decide +kernel
theorem dX6_when_20 : decode cX6_when 20 = .ok (.istore 4, 2) := by decide +kernel
theorem dX6_when_22 : decode cX6_when 22 = .ok (.iload 4, 2) := by decide +kernel
theorem dX6_when_24 : decode cX6_when 24 = .ok (.bipush 100, 2) := by decide +kernel
theorem dX6_when_26 : decode cX6_when 26 = .ok (.if_icmp .gt 23, 3) := by decide +kernel
theorem dX6_when_29 : decode cX6_when 29 = .ok (.aload_n 0, 1) := by decide +kernel
theorem dX6_when_30 : decode cX6_when 30 = .ok (.iload_n 1, 1) := by decide +kernel
theorem dX6_when_31 : decode cX6_when 31 = .ok (.iload_n 2, 1) := by decide +kernel
theorem dX6_when_32 : decode cX6_when 32 = .ok (.iload_n 3, 1) := by decide +kernel
theorem dX6_when_33 : decode cX6_when 33 = .ok (.invokevirtual 197, 3) := by decide +kernel
theorem dX6_when_36 : decode cX6_when 36 = .ok (.ifCond .ne 13, 3) := by decide +kernel
theorem dX6_when_39 : decode cX6_when 39 = .ok (.aload_n 0, 1) := by decide +kernel
theorem dX6_when_40 : decode cX6_when 40 = .ok (.invokevirtual 156, 3) := by decide +kernel
theorem dX6_when_43 : decode cX6_when 43 = .ok (.iinc 4 1, 3) := by decide +kernel
theorem dX6_when_46 : decode cX6_when 46 = .ok (.goto (-24), 3) := by decide +kernel
theorem dX6_when_49 : decode cX6_when 49 = .ok (.aload_n 0, 1) := by decide +kernel
theorem dX6_when_50 : decode cX6_when 50 = .ok (.invokevirtual 194, 3) := by decide +kernel
theorem dX6_when_53 : decode cX6_when 53 = .ok (.aload_n 0, 1) := by decide +kernel
theorem dX6_when_54 : decode cX6_when 54 = .ok (.iload 4, 2) := by decide +kernel
theorem dX6_when_56 : decode cX6_when 56 = .ok (.bipush 100, 2) := by decide +kernel
theorem dX6_when_58 : decode cX6_when 58 = .ok (.invokevirtual 200, 3) := by decide +kernel
theorem dX6_when_61 : decode cX6_when 61 = .ok (.ireturn, 1) := by decide +kernel
theorem dX6_leavesAll_0 : decode cX6_leavesAll 0 = .ok (.iconst 0, 1) := by decide +kernel
theorem dX6_leavesAll_1 : decode cX6_leavesAll 1 = .ok (.istore_n 1, 1) := by decide +kernel
theorem dX6_leavesAll_2 : decode cX6_leavesAll 2 = .ok (.iload_n 1, 1) := by decide +kernel
theorem dX6_leavesAll_3 : decode cX6_leavesAll 3 = .ok (.bipush 25, 2) := by decide +kernel
theorem dX6_leavesAll_5 : decode cX6_leavesAll 5 = .ok (.if_icmp .ge 23, 3) := by decide +kernel
theorem dX6_leavesAll_8 : decode cX6_leavesAll 8 = .ok (.aload_n 0, 1) := by decide +kernel
theorem dX6_leavesAll_9 : decode cX6_leavesAll 9 = .ok (.getfield 25, 3) := by decide +kernel
theorem dX6_leavesAll_12 : decode cX6_leavesAll 12 = .ok (.iload_n 1, 1) := by decide +kernel
theorem dX6_leavesAll_13 : decode cX6_leavesAll 13 = .ok (.aload_n 0, 1) := by decide +kernel
theorem dX6_leavesAll_14 : decode cX6_leavesAll 14 = .ok (.getfield 9, 3) := by decide +kernel
theorem dX6_leavesAll_17 : decode cX6_leavesAll 17 = .ok (.iconst 4, 1) := by decide +kernel
theorem dX6_leavesAll_18 : decode cX6_leavesAll 18 = .ok (.iload_n 1, 1) := by decide +kernel
theorem dX6_leavesAll_19 : decode cX6_leavesAll 19 = .ok (.iadd, 1) := by decide +kernel
theorem dX6_leavesAll_20 : decode cX6_leavesAll 20 = .ok (.iaload, 1) := by decide +kernel
theorem dX6_leavesAll_21 : decode cX6_leavesAll 21 = .ok (.iastore, 1) := by decide +kernel
theorem dX6_leavesAll_22 : decode cX6_leavesAll 22 = .ok (.iinc 1 1, 3) := by decide +kernel
theorem dX6_leavesAll_25 : decode cX6_leavesAll 25 = .ok (.goto (-23), 3) := by decide +kernel
theorem dX6_leavesAll_28 : decode cX6_leavesAll 28 = .ok (.aload_n 0, 1) := by decide +kernel
theorem dX6_leavesAll_29 : decode cX6_leavesAll 29 = .ok (.invokevirtual 156, 3) := by decide +kernel
theorem dX6_leavesAll_32 : decode cX6_leavesAll 32 = .ok (.iconst 1, 1) := by decide +kernel
theorem dX6_leavesAll_33 : decode cX6_leavesAll 33 = .ok (.istore_n 1, 1) := by decide +kernel
theorem dX6_leavesAll_34 : decode cX6_leavesAll 34 = .ok (.iconst 0, 1) := by decide +kernel
theorem dX6_leavesAll_35 : decode cX6_leavesAll 35 = .ok (.istore_n 2, 1) := by decide +kernel
theorem dX6_leavesAll_36 : decode cX6_leavesAll 36 = .ok (.iload_n 2, 1) := by decide +kernel
theorem dX6_leavesAll_37 : decode cX6_leavesAll 37 = .ok (.bipush 25, 2) := by decide +kernel
theorem dX6_leavesAll_39 : decode cX6_leavesAll 39 = .ok (.if_icmp .ge 36, 3) := by decide +kernel
theorem dX6_leavesAll_42 : decode cX6_leavesAll 42 = .ok (.iload_n 1, 1) := by decide +kernel
theorem dX6_leavesAll_43 : decode cX6_leavesAll 43 = .ok (.ifCond .eq 24, 3) := by decide +kernel
theorem dX6_leavesAll_46 : decode cX6_leavesAll 46 = .ok (.aload_n 0, 1) := by decide +kernel
theorem dX6_leavesAll_47 : decode cX6_leavesAll 47 = .ok (.getfield 25, 3) := by decide +kernel
theorem dX6_leavesAll_50 : decode cX6_leavesAll 50 = .ok (.iload_n 2, 1) := by decide +kernel
theorem dX6_leavesAll_51 : decode cX6_leavesAll 51 = .ok (.iaload, 1) := by decide +kernel
theorem dX6_leavesAll_52 : decode cX6_leavesAll 52 = .ok (.aload_n 0, 1) := by decide +kernel
theorem dX6_leavesAll_53 : decode cX6_leavesAll 53 = .ok (.getfield 9, 3) := by decide +kernel
theorem dX6_leavesAll_56 : decode cX6_leavesAll 56 = .ok (.iconst 4, 1) := by decide +kernel
theorem dX6_leavesAll_57 : decode cX6_leavesAll 57 = .ok (.iload_n 2, 1) := by decide +kernel
theorem dX6_leavesAll_58 : decode cX6_leavesAll 58 = .ok (.iadd, 1) := by decide +kernel
theorem dX6_leavesAll_59 : decode cX6_leavesAll 59 = .ok (.iaload, 1) := by decide +kernel
theorem dX6_leavesAll_60 : decode cX6_leavesAll 60 = .ok (.if_icmp .ne 7, 3) := by decide +kernel
theorem dX6_leavesAll_63 : decode cX6_leavesAll 63 = .ok (.iconst 1, 1) := by decide +kernel
theorem dX6_leavesAll_64 : decode cX6_leavesAll 64 = .ok (.goto 4, 3) := by decide +kernel
theorem dX6_leavesAll_67 : decode cX6_leavesAll 67 = .ok (.iconst 0, 1) := by decide +kernel
theorem dX6_leavesAll_68 : decode cX6_leavesAll 68 = .ok (.istore_n 1, 1) := by decide +kernel
theorem dX6_leavesAll_69 : decode cX6_leavesAll 69 = .ok (.iinc 2 1, 3) := by decide +kernel
theorem dX6_leavesAll_72 : decode cX6_leavesAll 72 = .ok (.goto (-36), 3) := by decide +kernel
theorem dX6_leavesAll_75 : decode cX6_leavesAll 75 = .ok (.iload_n 1, 1) := by decide +kernel
theorem dX6_leavesAll_76 : decode cX6_leavesAll 76 = .ok (.ireturn, 1) := by decide +kernel
theorem dX6_settles_0 : decode cX6_settles 0 = .ok (.aload_n 0, 1) := by decide +kernel
theorem dX6_settles_1 : decode cX6_settles 1 = .ok (.invokevirtual 191, 3) := by decide +kernel
theorem dX6_settles_4 : decode cX6_settles 4 = .ok (.iconst 0, 1) := by decide +kernel
theorem dX6_settles_5 : decode cX6_settles 5 = .ok (.istore_n 1, 1) := by decide +kernel
theorem dX6_settles_6 : decode cX6_settles 6 = .ok (.iload_n 1, 1) := by decide +kernel
theorem dX6_settles_7 : decode cX6_settles 7 = .ok (.bipush 100, 2) := by decide +kernel
theorem dX6_settles_9 : decode cX6_settles 9 = .ok (.if_icmp .gt 16, 3) := by decide +kernel
theorem dX6_settles_12 : decode cX6_settles 12 = .ok (.aload_n 0, 1) := by decide +kernel
theorem dX6_settles_13 : decode cX6_settles 13 = .ok (.invokevirtual 203, 3) := by decide +kernel
theorem dX6_settles_16 : decode cX6_settles 16 = .ok (.ifCond .ne 9, 3) := by decide +kernel
theorem dX6_settles_19 : decode cX6_settles 19 = .ok (.iinc 1 1, 3) := by decide +kernel
theorem dX6_settles_22 : decode cX6_settles 22 = .ok (.goto (-16), 3) := by decide +kernel
theorem dX6_settles_25 : decode cX6_settles 25 = .ok (.aload_n 0, 1) := by decide +kernel
theorem dX6_settles_26 : decode cX6_settles 26 = .ok (.invokevirtual 194, 3) := by decide +kernel
theorem dX6_settles_29 : decode cX6_settles 29 = .ok (.aload_n 0, 1) := by decide +kernel
theorem dX6_settles_30 : decode cX6_settles 30 = .ok (.iload_n 1, 1) := by decide +kernel
theorem dX6_settles_31 : decode cX6_settles 31 = .ok (.bipush 100, 2) := by decide +kernel
theorem dX6_settles_33 : decode cX6_settles 33 = .ok (.invokevirtual 200, 3) := by decide +kernel
theorem dX6_settles_36 : decode cX6_settles 36 = .ok (.ireturn, 1) := by decide +kernel
theorem dX6_isLying_0 : decode cX6_isLying 0 = .ok (.iconst 1, 1) := by decide +kernel
theorem dX6_isLying_1 : decode cX6_isLying 1 = .ok (.istore_n 3, 1) := by decide +kernel
theorem dX6_isLying_2 : decode cX6_isLying 2 = .ok (.iconst 0, 1) := by decide +kernel
theorem dX6_isLying_3 : decode cX6_isLying 3 = .ok (.istore 4, 2) := by decide +kernel
theorem dX6_isLying_5 : decode cX6_isLying 5 = .ok (.iload 4, 2) := by decide +kernel
theorem dX6_isLying_7 : decode cX6_isLying 7 = .ok (.iconst 4, 1) := by decide +kernel
theorem dX6_isLying_8 : decode cX6_isLying 8 = .ok (.if_icmp .ge 63, 3) := by decide +kernel
theorem dX6_isLying_11 : decode cX6_isLying 11 = .ok (.aload_n 0, 1) := by decide +kernel
theorem dX6_isLying_12 : decode cX6_isLying 12 = .ok (.iload_n 1, 1) := by decide +kernel
theorem dX6_isLying_13 : decode cX6_isLying 13 = .ok (.iconst 4, 1) := by decide +kernel
theorem dX6_isLying_14 : decode cX6_isLying 14 = .ok (.iload 4, 2) := by decide +kernel
theorem dX6_isLying_16 : decode cX6_isLying 16 = .ok (.iadd, 1) := by decide +kernel
theorem dX6_isLying_17 : decode cX6_isLying 17 = .ok (.invokevirtual 76, 3) := by decide +kernel
theorem dX6_isLying_20 : decode cX6_isLying 20 = .ok (.istore 5, 2) := by decide +kernel
theorem dX6_isLying_22 : decode cX6_isLying 22 = .ok (.iload_n 3, 1) := by decide +kernel
theorem dX6_isLying_23 : decode cX6_isLying 23 = .ok (.ifCond .eq 40, 3) := by decide +kernel
theorem dX6_isLying_26 : decode cX6_isLying 26 = .ok (.iload 5, 2) := by decide +kernel
theorem dX6_isLying_28 : decode cX6_isLying 28 = .ok (.ifCond .lt 31, 3) := by decide +kernel
theorem dX6_isLying_31 : decode cX6_isLying 31 = .ok (.iload 5, 2) := by decide +kernel
theorem dX6_isLying_33 : decode cX6_isLying 33 = .ok (.aload_n 0, 1) := by decide +kernel
theorem dX6_isLying_34 : decode cX6_isLying 34 = .ok (.getfield 9, 3) := by decide +kernel
theorem dX6_isLying_37 : decode cX6_isLying 37 = .ok (.iconst 4, 1) := by decide +kernel
theorem dX6_isLying_38 : decode cX6_isLying 38 = .ok (.aload_n 0, 1) := by decide +kernel
theorem dX6_isLying_39 : decode cX6_isLying 39 = .ok (.iload_n 1, 1) := by decide +kernel
theorem dX6_isLying_40 : decode cX6_isLying 40 = .ok (.iconst 1, 1) := by decide +kernel
theorem dX6_isLying_41 : decode cX6_isLying 41 = .ok (.invokevirtual 76, 3) := by decide +kernel
theorem dX6_isLying_44 : decode cX6_isLying 44 = .ok (.iload 4, 2) := by decide +kernel
theorem dX6_isLying_46 : decode cX6_isLying 46 = .ok (.invokestatic 103, 3) := by decide +kernel
theorem dX6_isLying_49 : decode cX6_isLying 49 = .ok (.iadd, 1) := by decide +kernel
theorem dX6_isLying_50 : decode cX6_isLying 50 = .ok (.iaload, 1) := by decide +kernel
theorem dX6_isLying_51 : decode cX6_isLying 51 = .ok (.isub, 1) := by decide +kernel
theorem dX6_isLying_52 : decode cX6_isLying 52 = .ok (.invokestatic 67, 3) := by decide +kernel
theorem dX6_isLying_55 : decode cX6_isLying 55 = .ok (.iload_n 2, 1) := by decide +kernel
theorem dX6_isLying_56 : decode cX6_isLying 56 = .ok (.if_icmp .gt 7, 3) := by decide +kernel
theorem dX6_isLying_59 : decode cX6_isLying 59 = .ok (.iconst 1, 1) := by decide +kernel
theorem dX6_isLying_60 : decode cX6_isLying 60 = .ok (.goto 4, 3) := by decide +kernel
theorem dX6_isLying_63 : decode cX6_isLying 63 = .ok (.iconst 0, 1) := by decide +kernel
theorem dX6_isLying_64 : decode cX6_isLying 64 = .ok (.istore_n 3, 1) := by decide +kernel
theorem dX6_isLying_65 : decode cX6_isLying 65 = .ok (.iinc 4 1, 3) := by decide +kernel
theorem dX6_isLying_68 : decode cX6_isLying 68 = .ok (.goto (-63), 3) := by decide +kernel
theorem dX6_isLying_71 : decode cX6_isLying 71 = .ok (.iload_n 3, 1) := by decide +kernel
theorem dX6_isLying_72 : decode cX6_isLying 72 = .ok (.ireturn, 1) := by decide +kernel
theorem dX6_lies_0 : decode cX6_lies 0 = .ok (.aload_n 0, 1) := by decide +kernel
theorem dX6_lies_1 : decode cX6_lies 1 = .ok (.iload_n 1, 1) := by decide +kernel
theorem dX6_lies_2 : decode cX6_lies 2 = .ok (.invokevirtual 127, 3) := by decide +kernel
theorem dX6_lies_5 : decode cX6_lies 5 = .ok (.ifCond .eq 10, 3) := by decide +kernel
theorem dX6_lies_8 : decode cX6_lies 8 = .ok (.iload_n 2, 1) := by decide +kernel
theorem dX6_lies_9 : decode cX6_lies 9 = .ok (.invokestatic 87, 3) := by decide +kernel
theorem dX6_lies_12 : decode cX6_lies 12 = .ok (.ifCond .ne 9, 3) := by decide +kernel
theorem dX6_lies_15 : decode cX6_lies 15 = .ok (.aload_n 0, 1) := by decide +kernel
theorem dX6_lies_16 : decode cX6_lies 16 = .ok (.iconst 0, 1) := by decide +kernel
theorem dX6_lies_17 : decode cX6_lies 17 = .ok (.invokevirtual 93, 3) := by decide +kernel
theorem dX6_lies_20 : decode cX6_lies 20 = .ok (.ireturn, 1) := by decide +kernel
theorem dX6_lies_21 : decode cX6_lies 21 = .ok (.aload_n 0, 1) := by decide +kernel
theorem dX6_lies_22 : decode cX6_lies 22 = .ok (.iload_n 1, 1) := by decide +kernel
theorem dX6_lies_23 : decode cX6_lies 23 = .ok (.iconst 1, 1) := by decide +kernel
theorem dX6_lies_24 : decode cX6_lies 24 = .ok (.invokevirtual 76, 3) := by decide +kernel
theorem dX6_lies_27 : decode cX6_lies 27 = .ok (.ifCond .ge 9, 3) := by decide +kernel
theorem dX6_lies_30 : decode cX6_lies 30 = .ok (.aload_n 0, 1) := by decide +kernel
theorem dX6_lies_31 : decode cX6_lies 31 = .ok (.iconst 4, 1) := by decide +kernel
theorem dX6_lies_32 : decode cX6_lies 32 = .ok (.invokevirtual 93, 3) := by decide +kernel
theorem dX6_lies_35 : decode cX6_lies 35 = .ok (.ireturn, 1) := by decide +kernel
theorem dX6_lies_36 : decode cX6_lies 36 = .ok (.aload_n 0, 1) := by decide +kernel
theorem dX6_lies_37 : decode cX6_lies 37 = .ok (.invokevirtual 191, 3) := by decide +kernel
theorem dX6_lies_40 : decode cX6_lies 40 = .ok (.iconst 0, 1) := by decide +kernel
theorem dX6_lies_41 : decode cX6_lies 41 = .ok (.istore_n 3, 1) := by decide +kernel
theorem dX6_lies_42 : decode cX6_lies 42 = .ok (.iload_n 3, 1) := by decide +kernel
theorem dX6_lies_43 : decode cX6_lies 43 = .ok (.bipush 100, 2) := by decide +kernel
theorem dX6_lies_45 : decode cX6_lies 45 = .ok (.if_icmp .gt 22, 3) := by decide +kernel
theorem dX6_lies_48 : decode cX6_lies 48 = .ok (.aload_n 0, 1) := by decide +kernel
theorem dX6_lies_49 : decode cX6_lies 49 = .ok (.iload_n 1, 1) := by decide +kernel
theorem dX6_lies_50 : decode cX6_lies 50 = .ok (.iload_n 2, 1) := by decide +kernel
theorem dX6_lies_51 : decode cX6_lies 51 = .ok (.invokevirtual 207, 3) := by decide +kernel
theorem dX6_lies_54 : decode cX6_lies 54 = .ok (.ifCond .ne 13, 3) := by decide +kernel
theorem dX6_lies_57 : decode cX6_lies 57 = .ok (.aload_n 0, 1) := by decide +kernel
theorem dX6_lies_58 : decode cX6_lies 58 = .ok (.invokevirtual 156, 3) := by decide +kernel
theorem dX6_lies_61 : decode cX6_lies 61 = .ok (.iinc 3 1, 3) := by decide +kernel
theorem dX6_lies_64 : decode cX6_lies 64 = .ok (.goto (-22), 3) := by decide +kernel
theorem dX6_lies_67 : decode cX6_lies 67 = .ok (.aload_n 0, 1) := by decide +kernel
theorem dX6_lies_68 : decode cX6_lies 68 = .ok (.invokevirtual 194, 3) := by decide +kernel
theorem dX6_lies_71 : decode cX6_lies 71 = .ok (.aload_n 0, 1) := by decide +kernel
theorem dX6_lies_72 : decode cX6_lies 72 = .ok (.iload_n 3, 1) := by decide +kernel
theorem dX6_lies_73 : decode cX6_lies 73 = .ok (.bipush 100, 2) := by decide +kernel
theorem dX6_lies_75 : decode cX6_lies 75 = .ok (.invokevirtual 200, 3) := by decide +kernel
theorem dX6_lies_78 : decode cX6_lies 78 = .ok (.ireturn, 1) := by decide +kernel
theorem dX6_unlikeBy_0 : decode cX6_unlikeBy 0 = .ok (.iconst 0, 1) := by decide +kernel
theorem dX6_unlikeBy_1 : decode cX6_unlikeBy 1 = .ok (.istore_n 3, 1) := by decide +kernel
theorem dX6_unlikeBy_2 : decode cX6_unlikeBy 2 = .ok (.iconst 0, 1) := by decide +kernel
theorem dX6_unlikeBy_3 : decode cX6_unlikeBy 3 = .ok (.istore 4, 2) := by decide +kernel
theorem dX6_unlikeBy_5 : decode cX6_unlikeBy 5 = .ok (.iload 4, 2) := by decide +kernel
theorem dX6_unlikeBy_7 : decode cX6_unlikeBy 7 = .ok (.iconst 4, 1) := by decide +kernel
theorem dX6_unlikeBy_8 : decode cX6_unlikeBy 8 = .ok (.if_icmp .ge 51, 3) := by decide +kernel
theorem dX6_unlikeBy_11 : decode cX6_unlikeBy 11 = .ok (.aload_n 0, 1) := by decide +kernel
theorem dX6_unlikeBy_12 : decode cX6_unlikeBy 12 = .ok (.iload_n 1, 1) := by decide +kernel
theorem dX6_unlikeBy_13 : decode cX6_unlikeBy 13 = .ok (.iconst 4, 1) := by decide +kernel
theorem dX6_unlikeBy_14 : decode cX6_unlikeBy 14 = .ok (.iload 4, 2) := by decide +kernel
theorem dX6_unlikeBy_16 : decode cX6_unlikeBy 16 = .ok (.iadd, 1) := by decide +kernel
theorem dX6_unlikeBy_17 : decode cX6_unlikeBy 17 = .ok (.invokevirtual 76, 3) := by decide +kernel
theorem dX6_unlikeBy_20 : decode cX6_unlikeBy 20 = .ok (.istore 5, 2) := by decide +kernel
theorem dX6_unlikeBy_22 : decode cX6_unlikeBy 22 = .ok (.iload_n 3, 1) := by decide +kernel
theorem dX6_unlikeBy_23 : decode cX6_unlikeBy 23 = .ok (.iload 5, 2) := by decide +kernel
theorem dX6_unlikeBy_25 : decode cX6_unlikeBy 25 = .ok (.ifCond .ge 7, 3) := by decide +kernel
theorem dX6_unlikeBy_28 : decode cX6_unlikeBy 28 = .ok (.iconst 0, 1) := by decide +kernel
theorem dX6_unlikeBy_29 : decode cX6_unlikeBy 29 = .ok (.goto 22, 3) := by decide +kernel
theorem dX6_unlikeBy_32 : decode cX6_unlikeBy 32 = .ok (.iload 5, 2) := by decide +kernel
theorem dX6_unlikeBy_34 : decode cX6_unlikeBy 34 = .ok (.aload_n 0, 1) := by decide +kernel
theorem dX6_unlikeBy_35 : decode cX6_unlikeBy 35 = .ok (.getfield 9, 3) := by decide +kernel
theorem dX6_unlikeBy_38 : decode cX6_unlikeBy 38 = .ok (.iconst 4, 1) := by decide +kernel
theorem dX6_unlikeBy_39 : decode cX6_unlikeBy 39 = .ok (.iload_n 2, 1) := by decide +kernel
theorem dX6_unlikeBy_40 : decode cX6_unlikeBy 40 = .ok (.iload 4, 2) := by decide +kernel
theorem dX6_unlikeBy_42 : decode cX6_unlikeBy 42 = .ok (.invokestatic 103, 3) := by decide +kernel
theorem dX6_unlikeBy_45 : decode cX6_unlikeBy 45 = .ok (.iadd, 1) := by decide +kernel
theorem dX6_unlikeBy_46 : decode cX6_unlikeBy 46 = .ok (.iaload, 1) := by decide +kernel
theorem dX6_unlikeBy_47 : decode cX6_unlikeBy 47 = .ok (.isub, 1) := by decide +kernel
theorem dX6_unlikeBy_48 : decode cX6_unlikeBy 48 = .ok (.invokestatic 67, 3) := by decide +kernel
theorem dX6_unlikeBy_51 : decode cX6_unlikeBy 51 = .ok (.iadd, 1) := by decide +kernel
theorem dX6_unlikeBy_52 : decode cX6_unlikeBy 52 = .ok (.istore_n 3, 1) := by decide +kernel
theorem dX6_unlikeBy_53 : decode cX6_unlikeBy 53 = .ok (.iinc 4 1, 3) := by decide +kernel
theorem dX6_unlikeBy_56 : decode cX6_unlikeBy 56 = .ok (.goto (-51), 3) := by decide +kernel
theorem dX6_unlikeBy_59 : decode cX6_unlikeBy 59 = .ok (.iload_n 3, 1) := by decide +kernel
theorem dX6_unlikeBy_60 : decode cX6_unlikeBy 60 = .ok (.ireturn, 1) := by decide +kernel
theorem dX6_unlike_0 : decode cX6_unlike 0 = .ok (.aload_n 0, 1) := by decide +kernel
theorem dX6_unlike_1 : decode cX6_unlike 1 = .ok (.iload_n 1, 1) := by decide +kernel
theorem dX6_unlike_2 : decode cX6_unlike 2 = .ok (.invokevirtual 127, 3) := by decide +kernel
theorem dX6_unlike_5 : decode cX6_unlike 5 = .ok (.ifCond .eq 19, 3) := by decide +kernel
theorem dX6_unlike_8 : decode cX6_unlike 8 = .ok (.iload_n 2, 1) := by decide +kernel
theorem dX6_unlike_9 : decode cX6_unlike 9 = .ok (.invokestatic 210, 3) := by decide +kernel
theorem dX6_unlike_12 : decode cX6_unlike 12 = .ok (.ifCond .eq 12, 3) := by decide +kernel
theorem dX6_unlike_15 : decode cX6_unlike 15 = .ok (.aload_n 0, 1) := by decide +kernel
theorem dX6_unlike_16 : decode cX6_unlike 16 = .ok (.iload_n 1, 1) := by decide +kernel
theorem dX6_unlike_17 : decode cX6_unlike 17 = .ok (.iload_n 2, 1) := by decide +kernel
theorem dX6_unlike_18 : decode cX6_unlike 18 = .ok (.invokevirtual 213, 3) := by decide +kernel
theorem dX6_unlike_21 : decode cX6_unlike 21 = .ok (.goto 8, 3) := by decide +kernel
theorem dX6_unlike_24 : decode cX6_unlike 24 = .ok (.aload_n 0, 1) := by decide +kernel
theorem dX6_unlike_25 : decode cX6_unlike 25 = .ok (.iconst 0, 1) := by decide +kernel
theorem dX6_unlike_26 : decode cX6_unlike 26 = .ok (.invokevirtual 93, 3) := by decide +kernel
theorem dX6_unlike_29 : decode cX6_unlike 29 = .ok (.ireturn, 1) := by decide +kernel
theorem dX6_home_0 : decode cX6_home 0 = .ok (.aload_n 0, 1) := by decide +kernel
theorem dX6_home_1 : decode cX6_home 1 = .ok (.iload_n 1, 1) := by decide +kernel
theorem dX6_home_2 : decode cX6_home 2 = .ok (.invokevirtual 127, 3) := by decide +kernel
theorem dX6_home_5 : decode cX6_home 5 = .ok (.ifCond .ne 9, 3) := by decide +kernel
theorem dX6_home_8 : decode cX6_home 8 = .ok (.aload_n 0, 1) := by decide +kernel
theorem dX6_home_9 : decode cX6_home 9 = .ok (.iconst 0, 1) := by decide +kernel
theorem dX6_home_10 : decode cX6_home 10 = .ok (.invokevirtual 93, 3) := by decide +kernel
theorem dX6_home_13 : decode cX6_home 13 = .ok (.ireturn, 1) := by decide +kernel
theorem dX6_home_14 : decode cX6_home 14 = .ok (.iconst 0, 1) := by decide +kernel
theorem dX6_home_15 : decode cX6_home 15 = .ok (.istore_n 2, 1) := by decide +kernel
theorem dX6_home_16 : decode cX6_home 16 = .ok (.iconst 1, 1) := by decide +kernel
theorem dX6_home_17 : decode cX6_home 17 = .ok (.istore_n 3, 1) := by decide +kernel
theorem dX6_home_18 : decode cX6_home 18 = .ok (.iload_n 3, 1) := by decide +kernel
theorem dX6_home_19 : decode cX6_home 19 = .ok (.bipush 16, 2) := by decide +kernel
theorem dX6_home_21 : decode cX6_home 21 = .ok (.if_icmp .ge 30, 3) := by decide +kernel
theorem dX6_home_24 : decode cX6_home 24 = .ok (.aload_n 0, 1) := by decide +kernel
theorem dX6_home_25 : decode cX6_home 25 = .ok (.iload_n 1, 1) := by decide +kernel
theorem dX6_home_26 : decode cX6_home 26 = .ok (.iload_n 3, 1) := by decide +kernel
theorem dX6_home_27 : decode cX6_home 27 = .ok (.invokevirtual 213, 3) := by decide +kernel
theorem dX6_home_30 : decode cX6_home 30 = .ok (.aload_n 0, 1) := by decide +kernel
theorem dX6_home_31 : decode cX6_home 31 = .ok (.iload_n 1, 1) := by decide +kernel
theorem dX6_home_32 : decode cX6_home 32 = .ok (.iload_n 2, 1) := by decide +kernel
theorem dX6_home_33 : decode cX6_home 33 = .ok (.invokevirtual 213, 3) := by decide +kernel
theorem dX6_home_36 : decode cX6_home 36 = .ok (.if_icmp .ge 7, 3) := by decide +kernel
theorem dX6_home_39 : decode cX6_home 39 = .ok (.iload_n 3, 1) := by decide +kernel
theorem dX6_home_40 : decode cX6_home 40 = .ok (.goto 4, 3) := by decide +kernel
theorem dX6_home_43 : decode cX6_home 43 = .ok (.iload_n 2, 1) := by decide +kernel
theorem dX6_home_44 : decode cX6_home 44 = .ok (.istore_n 2, 1) := by decide +kernel
theorem dX6_home_45 : decode cX6_home 45 = .ok (.iinc 3 1, 3) := by decide +kernel
theorem dX6_home_48 : decode cX6_home 48 = .ok (.goto (-30), 3) := by decide +kernel
theorem dX6_home_51 : decode cX6_home 51 = .ok (.iload_n 2, 1) := by decide +kernel
theorem dX6_home_52 : decode cX6_home 52 = .ok (.ireturn, 1) := by decide +kernel
theorem dX6_pitchFor_0 : decode cX6_pitchFor 0 = .ok (.aload_n 0, 1) := by decide +kernel
theorem dX6_pitchFor_1 : decode cX6_pitchFor 1 = .ok (.iload_n 1, 1) := by decide +kernel
theorem dX6_pitchFor_2 : decode cX6_pitchFor 2 = .ok (.invokevirtual 127, 3) := by decide +kernel
theorem dX6_pitchFor_5 : decode cX6_pitchFor 5 = .ok (.ifCond .eq 13, 3) := by decide +kernel
theorem dX6_pitchFor_8 : decode cX6_pitchFor 8 = .ok (.iload_n 2, 1) := by decide +kernel
theorem dX6_pitchFor_9 : decode cX6_pitchFor 9 = .ok (.iload_n 3, 1) := by decide +kernel
theorem dX6_pitchFor_10 : decode cX6_pitchFor 10 = .ok (.iload 4, 2) := by decide +kernel
theorem dX6_pitchFor_12 : decode cX6_pitchFor 12 = .ok (.invokestatic 183, 3) := by decide +kernel
theorem dX6_pitchFor_15 : decode cX6_pitchFor 15 = .ok (.ifCond .ne 9, 3) := by decide +kernel
theorem dX6_pitchFor_18 : decode cX6_pitchFor 18 = .ok (.aload_n 0, 1) := by decide +kernel
theorem dX6_pitchFor_19 : decode cX6_pitchFor 19 = .ok (.iconst 0, 1) := by decide +kernel
theorem dX6_pitchFor_20 : decode cX6_pitchFor 20 = .ok (.invokevirtual 93, 3) := by decide +kernel
theorem dX6_pitchFor_23 : decode cX6_pitchFor 23 = .ok (.ireturn, 1) := by decide +kernel
theorem dX6_pitchFor_24 : decode cX6_pitchFor 24 = .ok (.iconst (-1), 1) := by decide +kernel
theorem dX6_pitchFor_25 : decode cX6_pitchFor 25 = .ok (.istore 5, 2) := by decide +kernel
theorem dX6_pitchFor_27 : decode cX6_pitchFor 27 = .ok (.bipush 15, 2) := by decide +kernel
theorem dX6_pitchFor_29 : decode cX6_pitchFor 29 = .ok (.istore 6, 2) := by decide +kernel
theorem dX6_pitchFor_31 : decode cX6_pitchFor 31 = .ok (.iload 6, 2) := by decide +kernel
theorem dX6_pitchFor_33 : decode cX6_pitchFor 33 = .ok (.ifCond .lt 49, 3) := by decide +kernel
theorem dX6_pitchFor_36 : decode cX6_pitchFor 36 = .ok (.aload_n 0, 1) := by decide +kernel
theorem dX6_pitchFor_37 : decode cX6_pitchFor 37 = .ok (.invokevirtual 191, 3) := by decide +kernel
theorem dX6_pitchFor_40 : decode cX6_pitchFor 40 = .ok (.aload_n 0, 1) := by decide +kernel
theorem dX6_pitchFor_41 : decode cX6_pitchFor 41 = .ok (.iload_n 1, 1) := by decide +kernel
theorem dX6_pitchFor_42 : decode cX6_pitchFor 42 = .ok (.iconst 1, 1) := by decide +kernel
theorem dX6_pitchFor_43 : decode cX6_pitchFor 43 = .ok (.iload 6, 2) := by decide +kernel
theorem dX6_pitchFor_45 : decode cX6_pitchFor 45 = .ok (.invokevirtual 79, 3) := by decide +kernel
theorem dX6_pitchFor_48 : decode cX6_pitchFor 48 = .ok (.aload_n 0, 1) := by decide +kernel
theorem dX6_pitchFor_49 : decode cX6_pitchFor 49 = .ok (.invokevirtual 156, 3) := by decide +kernel
theorem dX6_pitchFor_52 : decode cX6_pitchFor 52 = .ok (.aload_n 0, 1) := by decide +kernel
theorem dX6_pitchFor_53 : decode cX6_pitchFor 53 = .ok (.iload_n 2, 1) := by decide +kernel
theorem dX6_pitchFor_54 : decode cX6_pitchFor 54 = .ok (.iload_n 3, 1) := by decide +kernel
theorem dX6_pitchFor_55 : decode cX6_pitchFor 55 = .ok (.iload 4, 2) := by decide +kernel
theorem dX6_pitchFor_57 : decode cX6_pitchFor 57 = .ok (.invokevirtual 197, 3) := by decide +kernel
theorem dX6_pitchFor_60 : decode cX6_pitchFor 60 = .ok (.ifCond .eq 8, 3) := by decide +kernel
theorem dX6_pitchFor_63 : decode cX6_pitchFor 63 = .ok (.iload 6, 2) := by decide +kernel
theorem dX6_pitchFor_65 : decode cX6_pitchFor 65 = .ok (.goto 5, 3) := by decide +kernel
theorem dX6_pitchFor_68 : decode cX6_pitchFor 68 = .ok (.iload 5, 2) := by decide +kernel
theorem dX6_pitchFor_70 : decode cX6_pitchFor 70 = .ok (.istore 5, 2) := by decide +kernel
theorem dX6_pitchFor_72 : decode cX6_pitchFor 72 = .ok (.aload_n 0, 1) := by decide +kernel
theorem dX6_pitchFor_73 : decode cX6_pitchFor 73 = .ok (.invokevirtual 194, 3) := by decide +kernel
theorem dX6_pitchFor_76 : decode cX6_pitchFor 76 = .ok (.iinc 6 (-1), 3) := by decide +kernel
theorem dX6_pitchFor_79 : decode cX6_pitchFor 79 = .ok (.goto (-48), 3) := by decide +kernel
theorem dX6_pitchFor_82 : decode cX6_pitchFor 82 = .ok (.iload 5, 2) := by decide +kernel
theorem dX6_pitchFor_84 : decode cX6_pitchFor 84 = .ok (.ifCond .ge 11, 3) := by decide +kernel
theorem dX6_pitchFor_87 : decode cX6_pitchFor 87 = .ok (.aload_n 0, 1) := by decide +kernel
theorem dX6_pitchFor_88 : decode cX6_pitchFor 88 = .ok (.iconst 3, 1) := by decide +kernel
theorem dX6_pitchFor_89 : decode cX6_pitchFor 89 = .ok (.invokevirtual 93, 3) := by decide +kernel
theorem dX6_pitchFor_92 : decode cX6_pitchFor 92 = .ok (.goto 5, 3) := by decide +kernel
theorem dX6_pitchFor_95 : decode cX6_pitchFor 95 = .ok (.iload 5, 2) := by decide +kernel
theorem dX6_pitchFor_97 : decode cX6_pitchFor 97 = .ok (.ireturn, 1) := by decide +kernel
theorem dX6_kindFor_0 : decode cX6_kindFor 0 = .ok (.aload_n 0, 1) := by decide +kernel
theorem dX6_kindFor_1 : decode cX6_kindFor 1 = .ok (.iload_n 1, 1) := by decide +kernel
theorem dX6_kindFor_2 : decode cX6_kindFor 2 = .ok (.invokevirtual 127, 3) := by decide +kernel
theorem dX6_kindFor_5 : decode cX6_kindFor 5 = .ok (.ifCond .eq 15, 3) := by decide +kernel
theorem dX6_kindFor_8 : decode cX6_kindFor 8 = .ok (.iload_n 2, 1) := by decide +kernel
theorem dX6_kindFor_9 : decode cX6_kindFor 9 = .ok (.i2l, 1) := by decide +kernel
theorem dX6_kindFor_10 : decode cX6_kindFor 10 = .ok (.lconst 0, 1) := by decide +kernel
theorem dX6_kindFor_11 : decode cX6_kindFor 11 = .ok (.ldc2_w 159, 3) := by decide +kernel
theorem dX6_kindFor_14 : decode cX6_kindFor 14 = .ok (.invokestatic 48, 3) := by decide +kernel
theorem dX6_kindFor_17 : decode cX6_kindFor 17 = .ok (.ifCond .ne 9, 3) := by decide +kernel
theorem dX6_kindFor_20 : decode cX6_kindFor 20 = .ok (.aload_n 0, 1) := by decide +kernel
theorem dX6_kindFor_21 : decode cX6_kindFor 21 = .ok (.iconst 0, 1) := by decide +kernel
theorem dX6_kindFor_22 : decode cX6_kindFor 22 = .ok (.invokevirtual 93, 3) := by decide +kernel
theorem dX6_kindFor_25 : decode cX6_kindFor 25 = .ok (.ireturn, 1) := by decide +kernel
theorem dX6_kindFor_26 : decode cX6_kindFor 26 = .ok (.iconst (-1), 1) := by decide +kernel
theorem dX6_kindFor_27 : decode cX6_kindFor 27 = .ok (.istore_n 3, 1) := by decide +kernel
theorem dX6_kindFor_28 : decode cX6_kindFor 28 = .ok (.bipush 100, 2) := by decide +kernel
theorem dX6_kindFor_30 : decode cX6_kindFor 30 = .ok (.istore 4, 2) := by decide +kernel
theorem dX6_kindFor_32 : decode cX6_kindFor 32 = .ok (.iconst 0, 1) := by decide +kernel
theorem dX6_kindFor_33 : decode cX6_kindFor 33 = .ok (.istore 5, 2) := by decide +kernel
theorem dX6_kindFor_35 : decode cX6_kindFor 35 = .ok (.iload 5, 2) := by decide +kernel
theorem dX6_kindFor_37 : decode cX6_kindFor 37 = .ok (.bipush 6, 2) := by decide +kernel
theorem dX6_kindFor_39 : decode cX6_kindFor 39 = .ok (.if_icmp .gt 59, 3) := by decide +kernel
theorem dX6_kindFor_42 : decode cX6_kindFor 42 = .ok (.aload_n 0, 1) := by decide +kernel
theorem dX6_kindFor_43 : decode cX6_kindFor 43 = .ok (.invokevirtual 191, 3) := by decide +kernel
theorem dX6_kindFor_46 : decode cX6_kindFor 46 = .ok (.aload_n 0, 1) := by decide +kernel
theorem dX6_kindFor_47 : decode cX6_kindFor 47 = .ok (.iload_n 1, 1) := by decide +kernel
theorem dX6_kindFor_48 : decode cX6_kindFor 48 = .ok (.iconst 0, 1) := by decide +kernel
theorem dX6_kindFor_49 : decode cX6_kindFor 49 = .ok (.iload 5, 2) := by decide +kernel
theorem dX6_kindFor_51 : decode cX6_kindFor 51 = .ok (.invokevirtual 79, 3) := by decide +kernel
theorem dX6_kindFor_54 : decode cX6_kindFor 54 = .ok (.aload_n 0, 1) := by decide +kernel
theorem dX6_kindFor_55 : decode cX6_kindFor 55 = .ok (.iload_n 2, 1) := by decide +kernel
theorem dX6_kindFor_56 : decode cX6_kindFor 56 = .ok (.invokevirtual 162, 3) := by decide +kernel
theorem dX6_kindFor_59 : decode cX6_kindFor 59 = .ok (.aload_n 0, 1) := by decide +kernel
theorem dX6_kindFor_60 : decode cX6_kindFor 60 = .ok (.invokevirtual 176, 3) := by decide +kernel
theorem dX6_kindFor_63 : decode cX6_kindFor 63 = .ok (.istore 6, 2) := by decide +kernel
theorem dX6_kindFor_65 : decode cX6_kindFor 65 = .ok (.aload_n 0, 1) := by decide +kernel
theorem dX6_kindFor_66 : decode cX6_kindFor 66 = .ok (.invokevirtual 194, 3) := by decide +kernel
theorem dX6_kindFor_69 : decode cX6_kindFor 69 = .ok (.iload 6, 2) := by decide +kernel
theorem dX6_kindFor_71 : decode cX6_kindFor 71 = .ok (.iload 4, 2) := by decide +kernel
theorem dX6_kindFor_73 : decode cX6_kindFor 73 = .ok (.if_icmp .ge 8, 3) := by decide +kernel
theorem dX6_kindFor_76 : decode cX6_kindFor 76 = .ok (.iload 5, 2) := by decide +kernel
theorem dX6_kindFor_78 : decode cX6_kindFor 78 = .ok (.goto 4, 3) := by decide +kernel
theorem dX6_kindFor_81 : decode cX6_kindFor 81 = .ok (.iload_n 3, 1) := by decide +kernel
theorem dX6_kindFor_82 : decode cX6_kindFor 82 = .ok (.istore_n 3, 1) := by decide +kernel
theorem dX6_kindFor_83 : decode cX6_kindFor 83 = .ok (.iload 4, 2) := by decide +kernel
theorem dX6_kindFor_85 : decode cX6_kindFor 85 = .ok (.iload 6, 2) := by decide +kernel
theorem dX6_kindFor_87 : decode cX6_kindFor 87 = .ok (.invokestatic 58, 3) := by decide +kernel
theorem dX6_kindFor_90 : decode cX6_kindFor 90 = .ok (.istore 4, 2) := by decide +kernel
theorem dX6_kindFor_92 : decode cX6_kindFor 92 = .ok (.iinc 5 1, 3) := by decide +kernel
theorem dX6_kindFor_95 : decode cX6_kindFor 95 = .ok (.goto (-60), 3) := by decide +kernel
theorem dX6_kindFor_98 : decode cX6_kindFor 98 = .ok (.iload_n 3, 1) := by decide +kernel
theorem dX6_kindFor_99 : decode cX6_kindFor 99 = .ok (.ireturn, 1) := by decide +kernel
theorem dX6_alone_0 : decode cX6_alone 0 = .ok (.iconst 0, 1) := by decide +kernel
theorem dX6_alone_1 : decode cX6_alone 1 = .ok (.istore_n 3, 1) := by decide +kernel
theorem dX6_alone_2 : decode cX6_alone 2 = .ok (.iload_n 3, 1) := by decide +kernel
theorem dX6_alone_3 : decode cX6_alone 3 = .ok (.aload_n 0, 1) := by decide +kernel
theorem dX6_alone_4 : decode cX6_alone 4 = .ok (.getfield 9, 3) := by decide +kernel
theorem dX6_alone_7 : decode cX6_alone 7 = .ok (.iconst 2, 1) := by decide +kernel
theorem dX6_alone_8 : decode cX6_alone 8 = .ok (.iaload, 1) := by decide +kernel
theorem dX6_alone_9 : decode cX6_alone 9 = .ok (.if_icmp .ge 25, 3) := by decide +kernel
theorem dX6_alone_12 : decode cX6_alone 12 = .ok (.aload_n 0, 1) := by decide +kernel
theorem dX6_alone_13 : decode cX6_alone 13 = .ok (.iload_n 3, 1) := by decide +kernel
theorem dX6_alone_14 : decode cX6_alone 14 = .ok (.iconst 1, 1) := by decide +kernel
theorem dX6_alone_15 : decode cX6_alone 15 = .ok (.iload_n 3, 1) := by decide +kernel
theorem dX6_alone_16 : decode cX6_alone 16 = .ok (.iload_n 1, 1) := by decide +kernel
theorem dX6_alone_17 : decode cX6_alone 17 = .ok (.if_icmp .ne 7, 3) := by decide +kernel
theorem dX6_alone_20 : decode cX6_alone 20 = .ok (.iload_n 2, 1) := by decide +kernel
theorem dX6_alone_21 : decode cX6_alone 21 = .ok (.goto 4, 3) := by decide +kernel
theorem dX6_alone_24 : decode cX6_alone 24 = .ok (.iconst (-1), 1) := by decide +kernel
theorem dX6_alone_25 : decode cX6_alone 25 = .ok (.invokevirtual 79, 3) := by decide +kernel
theorem dX6_alone_28 : decode cX6_alone 28 = .ok (.iinc 3 1, 3) := by decide +kernel
theorem dX6_alone_31 : decode cX6_alone 31 = .ok (.goto (-29), 3) := by decide +kernel
theorem dX6_alone_34 : decode cX6_alone 34 = .ok (.aload_n 0, 1) := by decide +kernel
theorem dX6_alone_35 : decode cX6_alone 35 = .ok (.invokevirtual 156, 3) := by decide +kernel
theorem dX6_alone_38 : decode cX6_alone 38 = .ok (.return_, 1) := by decide +kernel
theorem dX6_heightsBy_0 : decode cX6_heightsBy 0 = .ok (.aload_n 0, 1) := by decide +kernel
theorem dX6_heightsBy_1 : decode cX6_heightsBy 1 = .ok (.invokevirtual 191, 3) := by decide +kernel
theorem dX6_heightsBy_4 : decode cX6_heightsBy 4 = .ok (.aload_n 0, 1) := by decide +kernel
theorem dX6_heightsBy_5 : decode cX6_heightsBy 5 = .ok (.iload_n 1, 1) := by decide +kernel
theorem dX6_heightsBy_6 : decode cX6_heightsBy 6 = .ok (.iload_n 3, 1) := by decide +kernel
theorem dX6_heightsBy_7 : decode cX6_heightsBy 7 = .ok (.invokevirtual 216, 3) := by decide +kernel
theorem dX6_heightsBy_10 : decode cX6_heightsBy 10 = .ok (.aload_n 0, 1) := by decide +kernel
theorem dX6_heightsBy_11 : decode cX6_heightsBy 11 = .ok (.iload_n 2, 1) := by decide +kernel
theorem dX6_heightsBy_12 : decode cX6_heightsBy 12 = .ok (.iload_n 3, 1) := by decide +kernel
theorem dX6_heightsBy_13 : decode cX6_heightsBy 13 = .ok (.invokevirtual 216, 3) := by decide +kernel
theorem dX6_heightsBy_16 : decode cX6_heightsBy 16 = .ok (.aload_n 0, 1) := by decide +kernel
theorem dX6_heightsBy_17 : decode cX6_heightsBy 17 = .ok (.invokevirtual 166, 3) := by decide +kernel
theorem dX6_heightsBy_20 : decode cX6_heightsBy 20 = .ok (.istore 4, 2) := by decide +kernel
theorem dX6_heightsBy_22 : decode cX6_heightsBy 22 = .ok (.aload_n 0, 1) := by decide +kernel
theorem dX6_heightsBy_23 : decode cX6_heightsBy 23 = .ok (.invokevirtual 194, 3) := by decide +kernel
theorem dX6_heightsBy_26 : decode cX6_heightsBy 26 = .ok (.iload 4, 2) := by decide +kernel
theorem dX6_heightsBy_28 : decode cX6_heightsBy 28 = .ok (.ireturn, 1) := by decide +kernel
theorem dX6_first_0 : decode cX6_first 0 = .ok (.aload_n 0, 1) := by decide +kernel
theorem dX6_first_1 : decode cX6_first 1 = .ok (.iload_n 1, 1) := by decide +kernel
theorem dX6_first_2 : decode cX6_first 2 = .ok (.invokevirtual 127, 3) := by decide +kernel
theorem dX6_first_5 : decode cX6_first 5 = .ok (.ifCond .eq 23, 3) := by decide +kernel
theorem dX6_first_8 : decode cX6_first 8 = .ok (.aload_n 0, 1) := by decide +kernel
theorem dX6_first_9 : decode cX6_first 9 = .ok (.iload_n 2, 1) := by decide +kernel
theorem dX6_first_10 : decode cX6_first 10 = .ok (.invokevirtual 127, 3) := by decide +kernel
theorem dX6_first_13 : decode cX6_first 13 = .ok (.ifCond .eq 15, 3) := by decide +kernel
theorem dX6_first_16 : decode cX6_first 16 = .ok (.iload_n 3, 1) := by decide +kernel
theorem dX6_first_17 : decode cX6_first 17 = .ok (.invokestatic 210, 3) := by decide +kernel
theorem dX6_first_20 : decode cX6_first 20 = .ok (.ifCond .eq 8, 3) := by decide +kernel
theorem dX6_first_23 : decode cX6_first 23 = .ok (.iload_n 1, 1) := by decide +kernel
theorem dX6_first_24 : decode cX6_first 24 = .ok (.iload_n 2, 1) := by decide +kernel
theorem dX6_first_25 : decode cX6_first 25 = .ok (.if_icmp .ne 9, 3) := by decide +kernel
theorem dX6_first_28 : decode cX6_first 28 = .ok (.aload_n 0, 1) := by decide +kernel
theorem dX6_first_29 : decode cX6_first 29 = .ok (.iconst 0, 1) := by decide +kernel
theorem dX6_first_30 : decode cX6_first 30 = .ok (.invokevirtual 93, 3) := by decide +kernel
theorem dX6_first_33 : decode cX6_first 33 = .ok (.ireturn, 1) := by decide +kernel
theorem dX6_first_34 : decode cX6_first 34 = .ok (.aload_n 0, 1) := by decide +kernel
theorem dX6_first_35 : decode cX6_first 35 = .ok (.iload_n 1, 1) := by decide +kernel
theorem dX6_first_36 : decode cX6_first 36 = .ok (.iload_n 2, 1) := by decide +kernel
theorem dX6_first_37 : decode cX6_first 37 = .ok (.iload_n 3, 1) := by decide +kernel
theorem dX6_first_38 : decode cX6_first 38 = .ok (.invokevirtual 219, 3) := by decide +kernel
theorem dX6_first_41 : decode cX6_first 41 = .ok (.aload_n 0, 1) := by decide +kernel
theorem dX6_first_42 : decode cX6_first 42 = .ok (.iload_n 2, 1) := by decide +kernel
theorem dX6_first_43 : decode cX6_first 43 = .ok (.iload_n 1, 1) := by decide +kernel
theorem dX6_first_44 : decode cX6_first 44 = .ok (.iload_n 3, 1) := by decide +kernel
theorem dX6_first_45 : decode cX6_first 45 = .ok (.invokevirtual 219, 3) := by decide +kernel
theorem dX6_first_48 : decode cX6_first 48 = .ok (.isub, 1) := by decide +kernel
theorem dX6_first_49 : decode cX6_first 49 = .ok (.ireturn, 1) := by decide +kernel
theorem dX6_isOut_0 : decode cX6_isOut 0 = .ok (.iconst 1, 1) := by decide +kernel
theorem dX6_isOut_1 : decode cX6_isOut 1 = .ok (.istore 4, 2) := by decide +kernel
theorem dX6_isOut_3 : decode cX6_isOut 3 = .ok (.iconst 0, 1) := by decide +kernel
theorem dX6_isOut_4 : decode cX6_isOut 4 = .ok (.istore 5, 2) := by decide +kernel
theorem dX6_isOut_6 : decode cX6_isOut 6 = .ok (.iload 5, 2) := by decide +kernel
theorem dX6_isOut_8 : decode cX6_isOut 8 = .ok (.iconst 4, 1) := by decide +kernel
theorem dX6_isOut_9 : decode cX6_isOut 9 = .ok (.if_icmp .ge 48, 3) := by decide +kernel
theorem dX6_isOut_12 : decode cX6_isOut 12 = .ok (.aload_n 0, 1) := by decide +kernel
theorem dX6_isOut_13 : decode cX6_isOut 13 = .ok (.iload_n 1, 1) := by decide +kernel
theorem dX6_isOut_14 : decode cX6_isOut 14 = .ok (.iconst 4, 1) := by decide +kernel
theorem dX6_isOut_15 : decode cX6_isOut 15 = .ok (.iload 5, 2) := by decide +kernel
theorem dX6_isOut_17 : decode cX6_isOut 17 = .ok (.iadd, 1) := by decide +kernel
theorem dX6_isOut_18 : decode cX6_isOut 18 = .ok (.invokevirtual 76, 3) := by decide +kernel
theorem dX6_isOut_21 : decode cX6_isOut 21 = .ok (.istore 6, 2) := by decide +kernel
theorem dX6_isOut_23 : decode cX6_isOut 23 = .ok (.iload 4, 2) := by decide +kernel
theorem dX6_isOut_25 : decode cX6_isOut 25 = .ok (.ifCond .eq 23, 3) := by decide +kernel
theorem dX6_isOut_28 : decode cX6_isOut 28 = .ok (.iload 6, 2) := by decide +kernel
theorem dX6_isOut_30 : decode cX6_isOut 30 = .ok (.ifCond .lt 18, 3) := by decide +kernel
theorem dX6_isOut_33 : decode cX6_isOut 33 = .ok (.iload 6, 2) := by decide +kernel
theorem dX6_isOut_35 : decode cX6_isOut 35 = .ok (.iload_n 2, 1) := by decide +kernel
theorem dX6_isOut_36 : decode cX6_isOut 36 = .ok (.isub, 1) := by decide +kernel
theorem dX6_isOut_37 : decode cX6_isOut 37 = .ok (.invokestatic 67, 3) := by decide +kernel
theorem dX6_isOut_40 : decode cX6_isOut 40 = .ok (.iload_n 3, 1) := by decide +kernel
theorem dX6_isOut_41 : decode cX6_isOut 41 = .ok (.if_icmp .gt 7, 3) := by decide +kernel
theorem dX6_isOut_44 : decode cX6_isOut 44 = .ok (.iconst 1, 1) := by decide +kernel
theorem dX6_isOut_45 : decode cX6_isOut 45 = .ok (.goto 4, 3) := by decide +kernel
theorem dX6_isOut_48 : decode cX6_isOut 48 = .ok (.iconst 0, 1) := by decide +kernel
theorem dX6_isOut_49 : decode cX6_isOut 49 = .ok (.istore 4, 2) := by decide +kernel
theorem dX6_isOut_51 : decode cX6_isOut 51 = .ok (.iinc 5 1, 3) := by decide +kernel
theorem dX6_isOut_54 : decode cX6_isOut 54 = .ok (.goto (-48), 3) := by decide +kernel
theorem dX6_isOut_57 : decode cX6_isOut 57 = .ok (.iload 4, 2) := by decide +kernel
theorem dX6_isOut_59 : decode cX6_isOut 59 = .ok (.ireturn, 1) := by decide +kernel
theorem dX6_out_0 : decode cX6_out 0 = .ok (.aload_n 0, 1) := by decide +kernel
theorem dX6_out_1 : decode cX6_out 1 = .ok (.iload_n 1, 1) := by decide +kernel
theorem dX6_out_2 : decode cX6_out 2 = .ok (.invokevirtual 127, 3) := by decide +kernel
theorem dX6_out_5 : decode cX6_out 5 = .ok (.ifCond .eq 25, 3) := by decide +kernel
theorem dX6_out_8 : decode cX6_out 8 = .ok (.iload_n 2, 1) := by decide +kernel
theorem dX6_out_9 : decode cX6_out 9 = .ok (.invokestatic 210, 3) := by decide +kernel
theorem dX6_out_12 : decode cX6_out 12 = .ok (.ifCond .eq 18, 3) := by decide +kernel
theorem dX6_out_15 : decode cX6_out 15 = .ok (.iload_n 3, 1) := by decide +kernel
theorem dX6_out_16 : decode cX6_out 16 = .ok (.invokestatic 87, 3) := by decide +kernel
theorem dX6_out_19 : decode cX6_out 19 = .ok (.ifCond .eq 11, 3) := by decide +kernel
theorem dX6_out_22 : decode cX6_out 22 = .ok (.iload 4, 2) := by decide +kernel
theorem dX6_out_24 : decode cX6_out 24 = .ok (.invokestatic 87, 3) := by decide +kernel
theorem dX6_out_27 : decode cX6_out 27 = .ok (.ifCond .ne 9, 3) := by decide +kernel
theorem dX6_out_30 : decode cX6_out 30 = .ok (.aload_n 0, 1) := by decide +kernel
theorem dX6_out_31 : decode cX6_out 31 = .ok (.iconst 0, 1) := by decide +kernel
theorem dX6_out_32 : decode cX6_out 32 = .ok (.invokevirtual 93, 3) := by decide +kernel
theorem dX6_out_35 : decode cX6_out 35 = .ok (.ireturn, 1) := by decide +kernel
theorem dX6_out_36 : decode cX6_out 36 = .ok (.aload_n 0, 1) := by decide +kernel
theorem dX6_out_37 : decode cX6_out 37 = .ok (.invokevirtual 191, 3) := by decide +kernel
theorem dX6_out_40 : decode cX6_out 40 = .ok (.iconst 0, 1) := by decide +kernel
theorem dX6_out_41 : decode cX6_out 41 = .ok (.istore 5, 2) := by decide +kernel
theorem dX6_out_43 : decode cX6_out 43 = .ok (.iload 5, 2) := by decide +kernel
theorem dX6_out_45 : decode cX6_out 45 = .ok (.bipush 60, 2) := by decide +kernel
theorem dX6_out_47 : decode cX6_out 47 = .ok (.if_icmp .gt 26, 3) := by decide +kernel
theorem dX6_out_50 : decode cX6_out 50 = .ok (.aload_n 0, 1) := by decide +kernel
theorem dX6_out_51 : decode cX6_out 51 = .ok (.iload_n 1, 1) := by decide +kernel
theorem dX6_out_52 : decode cX6_out 52 = .ok (.iload_n 3, 1) := by decide +kernel
theorem dX6_out_53 : decode cX6_out 53 = .ok (.iload 4, 2) := by decide +kernel
theorem dX6_out_55 : decode cX6_out 55 = .ok (.invokevirtual 222, 3) := by decide +kernel
theorem dX6_out_58 : decode cX6_out 58 = .ok (.ifCond .ne 15, 3) := by decide +kernel
theorem dX6_out_61 : decode cX6_out 61 = .ok (.aload_n 0, 1) := by decide +kernel
theorem dX6_out_62 : decode cX6_out 62 = .ok (.iload_n 1, 1) := by decide +kernel
theorem dX6_out_63 : decode cX6_out 63 = .ok (.iload_n 2, 1) := by decide +kernel
theorem dX6_out_64 : decode cX6_out 64 = .ok (.invokevirtual 216, 3) := by decide +kernel
theorem dX6_out_67 : decode cX6_out 67 = .ok (.iinc 5 1, 3) := by decide +kernel
theorem dX6_out_70 : decode cX6_out 70 = .ok (.goto (-27), 3) := by decide +kernel
theorem dX6_out_73 : decode cX6_out 73 = .ok (.aload_n 0, 1) := by decide +kernel
theorem dX6_out_74 : decode cX6_out 74 = .ok (.invokevirtual 194, 3) := by decide +kernel
theorem dX6_out_77 : decode cX6_out 77 = .ok (.aload_n 0, 1) := by decide +kernel
theorem dX6_out_78 : decode cX6_out 78 = .ok (.iload 5, 2) := by decide +kernel
theorem dX6_out_80 : decode cX6_out 80 = .ok (.bipush 60, 2) := by decide +kernel
theorem dX6_out_82 : decode cX6_out 82 = .ok (.invokevirtual 200, 3) := by decide +kernel
theorem dX6_out_85 : decode cX6_out 85 = .ok (.ireturn, 1) := by decide +kernel
theorem dX6_isSo_0 : decode cX6_isSo 0 = .ok (.iconst 1, 1) := by decide +kernel
theorem dX6_isSo_1 : decode cX6_isSo 1 = .ok (.istore_n 3, 1) := by decide +kernel
theorem dX6_isSo_2 : decode cX6_isSo 2 = .ok (.iconst 0, 1) := by decide +kernel
theorem dX6_isSo_3 : decode cX6_isSo 3 = .ok (.istore 4, 2) := by decide +kernel
theorem dX6_isSo_5 : decode cX6_isSo 5 = .ok (.iload 4, 2) := by decide +kernel
theorem dX6_isSo_7 : decode cX6_isSo 7 = .ok (.iconst 4, 1) := by decide +kernel
theorem dX6_isSo_8 : decode cX6_isSo 8 = .ok (.if_icmp .ge 64, 3) := by decide +kernel
theorem dX6_isSo_11 : decode cX6_isSo 11 = .ok (.iload 4, 2) := by decide +kernel
theorem dX6_isSo_13 : decode cX6_isSo 13 = .ok (.aload_n 0, 1) := by decide +kernel
theorem dX6_isSo_14 : decode cX6_isSo 14 = .ok (.getfield 34, 3) := by decide +kernel
theorem dX6_isSo_17 : decode cX6_isSo 17 = .ok (.iload_n 1, 1) := by decide +kernel
theorem dX6_isSo_18 : decode cX6_isSo 18 = .ok (.iaload, 1) := by decide +kernel
theorem dX6_isSo_19 : decode cX6_isSo 19 = .ok (.if_icmp .ge 53, 3) := by decide +kernel
theorem dX6_isSo_22 : decode cX6_isSo 22 = .ok (.aload_n 0, 1) := by decide +kernel
theorem dX6_isSo_23 : decode cX6_isSo 23 = .ok (.getfield 37, 3) := by decide +kernel
theorem dX6_isSo_26 : decode cX6_isSo 26 = .ok (.bipush 40, 2) := by decide +kernel
theorem dX6_isSo_28 : decode cX6_isSo 28 = .ok (.iload_n 1, 1) := by decide +kernel
theorem dX6_isSo_29 : decode cX6_isSo 29 = .ok (.imul, 1) := by decide +kernel
theorem dX6_isSo_30 : decode cX6_isSo 30 = .ok (.iload 4, 2) := by decide +kernel
theorem dX6_isSo_32 : decode cX6_isSo 32 = .ok (.iadd, 1) := by decide +kernel
theorem dX6_isSo_33 : decode cX6_isSo 33 = .ok (.iaload, 1) := by decide +kernel
theorem dX6_isSo_34 : decode cX6_isSo 34 = .ok (.istore 5, 2) := by decide +kernel
theorem dX6_isSo_36 : decode cX6_isSo 36 = .ok (.iload_n 3, 1) := by decide +kernel
theorem dX6_isSo_37 : decode cX6_isSo 37 = .ok (.ifCond .eq 27, 3) := by decide +kernel
theorem dX6_isSo_40 : decode cX6_isSo 40 = .ok (.iload 5, 2) := by decide +kernel
theorem dX6_isSo_42 : decode cX6_isSo 42 = .ok (.iconst (-1), 1) := by decide +kernel
theorem dX6_isSo_43 : decode cX6_isSo 43 = .ok (.if_icmp .eq 17, 3) := by decide +kernel
theorem dX6_isSo_46 : decode cX6_isSo 46 = .ok (.iload 5, 2) := by decide +kernel
theorem dX6_isSo_48 : decode cX6_isSo 48 = .ok (.aload_n 0, 1) := by decide +kernel
theorem dX6_isSo_49 : decode cX6_isSo 49 = .ok (.iload_n 2, 1) := by decide +kernel
theorem dX6_isSo_50 : decode cX6_isSo 50 = .ok (.iconst 4, 1) := by decide +kernel
theorem dX6_isSo_51 : decode cX6_isSo 51 = .ok (.iload 4, 2) := by decide +kernel
theorem dX6_isSo_53 : decode cX6_isSo 53 = .ok (.iadd, 1) := by decide +kernel
theorem dX6_isSo_54 : decode cX6_isSo 54 = .ok (.invokevirtual 76, 3) := by decide +kernel
theorem dX6_isSo_57 : decode cX6_isSo 57 = .ok (.if_icmp .ne 7, 3) := by decide +kernel
theorem dX6_isSo_60 : decode cX6_isSo 60 = .ok (.iconst 1, 1) := by decide +kernel
theorem dX6_isSo_61 : decode cX6_isSo 61 = .ok (.goto 4, 3) := by decide +kernel
theorem dX6_isSo_64 : decode cX6_isSo 64 = .ok (.iconst 0, 1) := by decide +kernel
theorem dX6_isSo_65 : decode cX6_isSo 65 = .ok (.istore_n 3, 1) := by decide +kernel
theorem dX6_isSo_66 : decode cX6_isSo 66 = .ok (.iinc 4 1, 3) := by decide +kernel
theorem dX6_isSo_69 : decode cX6_isSo 69 = .ok (.goto (-64), 3) := by decide +kernel
theorem dX6_isSo_72 : decode cX6_isSo 72 = .ok (.iload_n 3, 1) := by decide +kernel
theorem dX6_isSo_73 : decode cX6_isSo 73 = .ok (.ireturn, 1) := by decide +kernel
theorem dX6_lacksTent_0 : decode cX6_lacksTent 0 = .ok (.aload_n 0, 1) := by decide +kernel
theorem dX6_lacksTent_1 : decode cX6_lacksTent 1 = .ok (.iload_n 1, 1) := by decide +kernel
theorem dX6_lacksTent_2 : decode cX6_lacksTent 2 = .ok (.invokevirtual 225, 3) := by decide +kernel
theorem dX6_lacksTent_5 : decode cX6_lacksTent 5 = .ok (.istore_n 3, 1) := by decide +kernel
theorem dX6_lacksTent_6 : decode cX6_lacksTent 6 = .ok (.iload_n 3, 1) := by decide +kernel
theorem dX6_lacksTent_7 : decode cX6_lacksTent 7 = .ok (.ifCond .lt 5, 3) := by decide +kernel
theorem dX6_lacksTent_10 : decode cX6_lacksTent 10 = .ok (.iload_n 3, 1) := by decide +kernel
theorem dX6_lacksTent_11 : decode cX6_lacksTent 11 = .ok (.ireturn, 1) := by decide +kernel
theorem dX6_lacksTent_12 : decode cX6_lacksTent 12 = .ok (.aload_n 0, 1) := by decide +kernel
theorem dX6_lacksTent_13 : decode cX6_lacksTent 13 = .ok (.iload_n 2, 1) := by decide +kernel
theorem dX6_lacksTent_14 : decode cX6_lacksTent 14 = .ok (.invokevirtual 127, 3) := by decide +kernel
theorem dX6_lacksTent_17 : decode cX6_lacksTent 17 = .ok (.ifCond .eq 7, 3) := by decide +kernel
theorem dX6_lacksTent_20 : decode cX6_lacksTent 20 = .ok (.iconst (-1), 1) := by decide +kernel
theorem dX6_lacksTent_21 : decode cX6_lacksTent 21 = .ok (.goto 4, 3) := by decide +kernel
theorem dX6_lacksTent_24 : decode cX6_lacksTent 24 = .ok (.iconst 0, 1) := by decide +kernel
theorem dX6_lacksTent_25 : decode cX6_lacksTent 25 = .ok (.ireturn, 1) := by decide +kernel
theorem dX6_fits_0 : decode cX6_fits 0 = .ok (.aload_n 0, 1) := by decide +kernel
theorem dX6_fits_1 : decode cX6_fits 1 = .ok (.iload_n 1, 1) := by decide +kernel
theorem dX6_fits_2 : decode cX6_fits 2 = .ok (.iload_n 2, 1) := by decide +kernel
theorem dX6_fits_3 : decode cX6_fits 3 = .ok (.invokevirtual 228, 3) := by decide +kernel
theorem dX6_fits_6 : decode cX6_fits 6 = .ok (.istore_n 3, 1) := by decide +kernel
theorem dX6_fits_7 : decode cX6_fits 7 = .ok (.iload_n 3, 1) := by decide +kernel
theorem dX6_fits_8 : decode cX6_fits 8 = .ok (.ifCond .lt 9, 3) := by decide +kernel
theorem dX6_fits_11 : decode cX6_fits 11 = .ok (.aload_n 0, 1) := by decide +kernel
theorem dX6_fits_12 : decode cX6_fits 12 = .ok (.iload_n 3, 1) := by decide +kernel
theorem dX6_fits_13 : decode cX6_fits 13 = .ok (.invokevirtual 93, 3) := by decide +kernel
theorem dX6_fits_16 : decode cX6_fits 16 = .ok (.ireturn, 1) := by decide +kernel
theorem dX6_fits_17 : decode cX6_fits 17 = .ok (.iconst 0, 1) := by decide +kernel
theorem dX6_fits_18 : decode cX6_fits 18 = .ok (.istore 4, 2) := by decide +kernel
theorem dX6_fits_20 : decode cX6_fits 20 = .ok (.iconst 0, 1) := by decide +kernel
theorem dX6_fits_21 : decode cX6_fits 21 = .ok (.istore 5, 2) := by decide +kernel
theorem dX6_fits_23 : decode cX6_fits 23 = .ok (.iload 5, 2) := by decide +kernel
theorem dX6_fits_25 : decode cX6_fits 25 = .ok (.bipush 16, 2) := by decide +kernel
theorem dX6_fits_27 : decode cX6_fits 27 = .ok (.if_icmp .ge 46, 3) := by decide +kernel
theorem dX6_fits_30 : decode cX6_fits 30 = .ok (.aload_n 0, 1) := by decide +kernel
theorem dX6_fits_31 : decode cX6_fits 31 = .ok (.invokevirtual 191, 3) := by decide +kernel
theorem dX6_fits_34 : decode cX6_fits 34 = .ok (.aload_n 0, 1) := by decide +kernel
theorem dX6_fits_35 : decode cX6_fits 35 = .ok (.iload_n 2, 1) := by decide +kernel
theorem dX6_fits_36 : decode cX6_fits 36 = .ok (.iload 5, 2) := by decide +kernel
theorem dX6_fits_38 : decode cX6_fits 38 = .ok (.invokevirtual 216, 3) := by decide +kernel
theorem dX6_fits_41 : decode cX6_fits 41 = .ok (.iload 4, 2) := by decide +kernel
theorem dX6_fits_43 : decode cX6_fits 43 = .ok (.aload_n 0, 1) := by decide +kernel
theorem dX6_fits_44 : decode cX6_fits 44 = .ok (.iload_n 1, 1) := by decide +kernel
theorem dX6_fits_45 : decode cX6_fits 45 = .ok (.iload_n 2, 1) := by decide +kernel
theorem dX6_fits_46 : decode cX6_fits 46 = .ok (.invokevirtual 231, 3) := by decide +kernel
theorem dX6_fits_49 : decode cX6_fits 49 = .ok (.ifCond .eq 10, 3) := by decide +kernel
theorem dX6_fits_52 : decode cX6_fits 52 = .ok (.iconst 1, 1) := by decide +kernel
theorem dX6_fits_53 : decode cX6_fits 53 = .ok (.iload 5, 2) := by decide +kernel
theorem dX6_fits_55 : decode cX6_fits 55 = .ok (.ishl, 1) := by decide +kernel
theorem dX6_fits_56 : decode cX6_fits 56 = .ok (.goto 4, 3) := by decide +kernel
theorem dX6_fits_59 : decode cX6_fits 59 = .ok (.iconst 0, 1) := by decide +kernel
theorem dX6_fits_60 : decode cX6_fits 60 = .ok (.ior, 1) := by decide +kernel
theorem dX6_fits_61 : decode cX6_fits 61 = .ok (.istore 4, 2) := by decide +kernel
theorem dX6_fits_63 : decode cX6_fits 63 = .ok (.aload_n 0, 1) := by decide +kernel
theorem dX6_fits_64 : decode cX6_fits 64 = .ok (.invokevirtual 194, 3) := by decide +kernel
theorem dX6_fits_67 : decode cX6_fits 67 = .ok (.iinc 5 1, 3) := by decide +kernel
theorem dX6_fits_70 : decode cX6_fits 70 = .ok (.goto (-47), 3) := by decide +kernel
theorem dX6_fits_73 : decode cX6_fits 73 = .ok (.iload 4, 2) := by decide +kernel
theorem dX6_fits_75 : decode cX6_fits 75 = .ok (.ireturn, 1) := by decide +kernel
theorem dX6_kinds_0 : decode cX6_kinds 0 = .ok (.aload_n 0, 1) := by decide +kernel
theorem dX6_kinds_1 : decode cX6_kinds 1 = .ok (.iload_n 1, 1) := by decide +kernel
theorem dX6_kinds_2 : decode cX6_kinds 2 = .ok (.iload_n 2, 1) := by decide +kernel
theorem dX6_kinds_3 : decode cX6_kinds 3 = .ok (.invokevirtual 228, 3) := by decide +kernel
theorem dX6_kinds_6 : decode cX6_kinds 6 = .ok (.istore_n 3, 1) := by decide +kernel
theorem dX6_kinds_7 : decode cX6_kinds 7 = .ok (.iload_n 3, 1) := by decide +kernel
theorem dX6_kinds_8 : decode cX6_kinds 8 = .ok (.ifCond .lt 9, 3) := by decide +kernel
theorem dX6_kinds_11 : decode cX6_kinds 11 = .ok (.aload_n 0, 1) := by decide +kernel
theorem dX6_kinds_12 : decode cX6_kinds 12 = .ok (.iload_n 3, 1) := by decide +kernel
theorem dX6_kinds_13 : decode cX6_kinds 13 = .ok (.invokevirtual 93, 3) := by decide +kernel
theorem dX6_kinds_16 : decode cX6_kinds 16 = .ok (.ireturn, 1) := by decide +kernel
theorem dX6_kinds_17 : decode cX6_kinds 17 = .ok (.iconst 0, 1) := by decide +kernel
theorem dX6_kinds_18 : decode cX6_kinds 18 = .ok (.istore 4, 2) := by decide +kernel
theorem dX6_kinds_20 : decode cX6_kinds 20 = .ok (.iconst 0, 1) := by decide +kernel
theorem dX6_kinds_21 : decode cX6_kinds 21 = .ok (.istore 5, 2) := by decide +kernel
theorem dX6_kinds_23 : decode cX6_kinds 23 = .ok (.iload 5, 2) := by decide +kernel
theorem dX6_kinds_25 : decode cX6_kinds 25 = .ok (.bipush 6, 2) := by decide +kernel
theorem dX6_kinds_27 : decode cX6_kinds 27 = .ok (.if_icmp .gt 51, 3) := by decide +kernel
theorem dX6_kinds_30 : decode cX6_kinds 30 = .ok (.aload_n 0, 1) := by decide +kernel
theorem dX6_kinds_31 : decode cX6_kinds 31 = .ok (.invokevirtual 191, 3) := by decide +kernel
theorem dX6_kinds_34 : decode cX6_kinds 34 = .ok (.aload_n 0, 1) := by decide +kernel
theorem dX6_kinds_35 : decode cX6_kinds 35 = .ok (.iload_n 2, 1) := by decide +kernel
theorem dX6_kinds_36 : decode cX6_kinds 36 = .ok (.iconst 0, 1) := by decide +kernel
theorem dX6_kinds_37 : decode cX6_kinds 37 = .ok (.iload 5, 2) := by decide +kernel
theorem dX6_kinds_39 : decode cX6_kinds 39 = .ok (.invokevirtual 79, 3) := by decide +kernel
theorem dX6_kinds_42 : decode cX6_kinds 42 = .ok (.aload_n 0, 1) := by decide +kernel
theorem dX6_kinds_43 : decode cX6_kinds 43 = .ok (.invokevirtual 156, 3) := by decide +kernel
theorem dX6_kinds_46 : decode cX6_kinds 46 = .ok (.iload 4, 2) := by decide +kernel
theorem dX6_kinds_48 : decode cX6_kinds 48 = .ok (.aload_n 0, 1) := by decide +kernel
theorem dX6_kinds_49 : decode cX6_kinds 49 = .ok (.iload_n 1, 1) := by decide +kernel
theorem dX6_kinds_50 : decode cX6_kinds 50 = .ok (.iload_n 2, 1) := by decide +kernel
theorem dX6_kinds_51 : decode cX6_kinds 51 = .ok (.invokevirtual 231, 3) := by decide +kernel
theorem dX6_kinds_54 : decode cX6_kinds 54 = .ok (.ifCond .eq 10, 3) := by decide +kernel
theorem dX6_kinds_57 : decode cX6_kinds 57 = .ok (.iconst 1, 1) := by decide +kernel
theorem dX6_kinds_58 : decode cX6_kinds 58 = .ok (.iload 5, 2) := by decide +kernel
theorem dX6_kinds_60 : decode cX6_kinds 60 = .ok (.ishl, 1) := by decide +kernel
theorem dX6_kinds_61 : decode cX6_kinds 61 = .ok (.goto 4, 3) := by decide +kernel
theorem dX6_kinds_64 : decode cX6_kinds 64 = .ok (.iconst 0, 1) := by decide +kernel
theorem dX6_kinds_65 : decode cX6_kinds 65 = .ok (.ior, 1) := by decide +kernel
theorem dX6_kinds_66 : decode cX6_kinds 66 = .ok (.istore 4, 2) := by decide +kernel
theorem dX6_kinds_68 : decode cX6_kinds 68 = .ok (.aload_n 0, 1) := by decide +kernel
theorem dX6_kinds_69 : decode cX6_kinds 69 = .ok (.invokevirtual 194, 3) := by decide +kernel
theorem dX6_kinds_72 : decode cX6_kinds 72 = .ok (.iinc 5 1, 3) := by decide +kernel
theorem dX6_kinds_75 : decode cX6_kinds 75 = .ok (.goto (-52), 3) := by decide +kernel
theorem dX6_kinds_78 : decode cX6_kinds 78 = .ok (.iload 4, 2) := by decide +kernel
theorem dX6_kinds_80 : decode cX6_kinds 80 = .ok (.ireturn, 1) := by decide +kernel
theorem dX6_draw_0 : decode cX6_draw 0 = .ok (.aload_n 0, 1) := by decide +kernel
theorem dX6_draw_1 : decode cX6_draw 1 = .ok (.getfield 9, 3) := by decide +kernel
theorem dX6_draw_4 : decode cX6_draw 4 = .ok (.iconst 1, 1) := by decide +kernel
theorem dX6_draw_5 : decode cX6_draw 5 = .ok (.aload_n 0, 1) := by decide +kernel
theorem dX6_draw_6 : decode cX6_draw 6 = .ok (.getfield 9, 3) := by decide +kernel
theorem dX6_draw_9 : decode cX6_draw 9 = .ok (.iconst 1, 1) := by decide +kernel
theorem dX6_draw_10 : decode cX6_draw 10 = .ok (.iaload, 1) := by decide +kernel
theorem dX6_draw_11 : decode cX6_draw 11 = .ok (.ldc 234, 2) := by decide +kernel
theorem dX6_draw_13 : decode cX6_draw 13 = .ok (.imul, 1) := by decide +kernel
theorem dX6_draw_14 : decode cX6_draw 14 = .ok (.sipush 12345, 3) := by decide +kernel
theorem dX6_draw_17 : decode cX6_draw 17 = .ok (.iadd, 1) := by decide +kernel
theorem dX6_draw_18 : decode cX6_draw 18 = .ok (.iastore, 1) := by decide +kernel
theorem dX6_draw_19 : decode cX6_draw 19 = .ok (.aload_n 0, 1) := by decide +kernel
theorem dX6_draw_20 : decode cX6_draw 20 = .ok (.getfield 9, 3) := by decide +kernel
theorem dX6_draw_23 : decode cX6_draw 23 = .ok (.iconst 1, 1) := by decide +kernel
theorem dX6_draw_24 : decode cX6_draw 24 = .ok (.iaload, 1) := by decide +kernel
theorem dX6_draw_25 : decode cX6_draw 25 = .ok (.bipush 8, 2) := by decide +kernel
theorem dX6_draw_27 : decode cX6_draw 27 = .ok (.iushr, 1) := by decide +kernel
theorem dX6_draw_28 : decode cX6_draw 28 = .ok (.ireturn, 1) := by decide +kernel
theorem dX6_nomads_0 : decode cX6_nomads 0 = .ok (.iload_n 1, 1) := by decide +kernel
theorem dX6_nomads_1 : decode cX6_nomads 1 = .ok (.i2l, 1) := by decide +kernel
theorem dX6_nomads_2 : decode cX6_nomads 2 = .ok (.lconst 1, 1) := by decide +kernel
theorem dX6_nomads_3 : decode cX6_nomads 3 = .ok (.ldc2_w 235, 3) := by decide +kernel
theorem dX6_nomads_6 : decode cX6_nomads 6 = .ok (.invokestatic 48, 3) := by decide +kernel
theorem dX6_nomads_9 : decode cX6_nomads 9 = .ok (.ifCond .ne 9, 3) := by decide +kernel
theorem dX6_nomads_12 : decode cX6_nomads 12 = .ok (.aload_n 0, 1) := by decide +kernel
theorem dX6_nomads_13 : decode cX6_nomads 13 = .ok (.iconst 0, 1) := by decide +kernel
theorem dX6_nomads_14 : decode cX6_nomads 14 = .ok (.invokevirtual 93, 3) := by decide +kernel
theorem dX6_nomads_17 : decode cX6_nomads 17 = .ok (.ireturn, 1) := by decide +kernel
theorem dX6_nomads_18 : decode cX6_nomads 18 = .ok (.aload_n 0, 1) := by decide +kernel
theorem dX6_nomads_19 : decode cX6_nomads 19 = .ok (.getfield 9, 3) := by decide +kernel
theorem dX6_nomads_22 : decode cX6_nomads 22 = .ok (.iconst 0, 1) := by decide +kernel
theorem dX6_nomads_23 : decode cX6_nomads 23 = .ok (.iaload, 1) := by decide +kernel
theorem dX6_nomads_24 : decode cX6_nomads 24 = .ok (.iload_n 1, 1) := by decide +kernel
theorem dX6_nomads_25 : decode cX6_nomads 25 = .ok (.iadd, 1) := by decide +kernel
theorem dX6_nomads_26 : decode cX6_nomads 26 = .ok (.ldc 161, 2) := by decide +kernel
theorem dX6_nomads_28 : decode cX6_nomads 28 = .ok (.if_icmp .le 9, 3) := by decide +kernel
theorem dX6_nomads_31 : decode cX6_nomads 31 = .ok (.aload_n 0, 1) := by decide +kernel
theorem dX6_nomads_32 : decode cX6_nomads 32 = .ok (.iconst 4, 1) := by decide +kernel
theorem dX6_nomads_33 : decode cX6_nomads 33 = .ok (.invokevirtual 93, 3) := by decide +kernel
theorem dX6_nomads_36 : decode cX6_nomads 36 = .ok (.ireturn, 1) := by decide +kernel
theorem dX6_nomads_37 : decode cX6_nomads 37 = .ok (.iconst 0, 1) := by decide +kernel
theorem dX6_nomads_38 : decode cX6_nomads 38 = .ok (.istore_n 2, 1) := by decide +kernel
theorem dX6_nomads_39 : decode cX6_nomads 39 = .ok (.iload_n 2, 1) := by decide +kernel
theorem dX6_nomads_40 : decode cX6_nomads 40 = .ok (.iload_n 1, 1) := by decide +kernel
theorem dX6_nomads_41 : decode cX6_nomads 41 = .ok (.if_icmp .ge 46, 3) := by decide +kernel
theorem dX6_nomads_44 : decode cX6_nomads 44 = .ok (.aload_n 0, 1) := by decide +kernel
theorem dX6_nomads_45 : decode cX6_nomads 45 = .ok (.invokevirtual 237, 3) := by decide +kernel
theorem dX6_nomads_48 : decode cX6_nomads 48 = .ok (.bipush 8, 2) := by decide +kernel
theorem dX6_nomads_50 : decode cX6_nomads 50 = .ok (.irem, 1) := by decide +kernel
theorem dX6_nomads_51 : decode cX6_nomads 51 = .ok (.istore_n 3, 1) := by decide +kernel
theorem dX6_nomads_52 : decode cX6_nomads 52 = .ok (.aload_n 0, 1) := by decide +kernel
theorem dX6_nomads_53 : decode cX6_nomads 53 = .ok (.invokevirtual 237, 3) := by decide +kernel
theorem dX6_nomads_56 : decode cX6_nomads 56 = .ok (.bipush 16, 2) := by decide +kernel
theorem dX6_nomads_58 : decode cX6_nomads 58 = .ok (.irem, 1) := by decide +kernel
theorem dX6_nomads_59 : decode cX6_nomads 59 = .ok (.istore 4, 2) := by decide +kernel
theorem dX6_nomads_61 : decode cX6_nomads 61 = .ok (.aload_n 0, 1) := by decide +kernel
theorem dX6_nomads_62 : decode cX6_nomads 62 = .ok (.iload_n 3, 1) := by decide +kernel
theorem dX6_nomads_63 : decode cX6_nomads 63 = .ok (.invokevirtual 127, 3) := by decide +kernel
theorem dX6_nomads_66 : decode cX6_nomads 66 = .ok (.ifCond .eq 11, 3) := by decide +kernel
theorem dX6_nomads_69 : decode cX6_nomads 69 = .ok (.aload_n 0, 1) := by decide +kernel
theorem dX6_nomads_70 : decode cX6_nomads 70 = .ok (.iload_n 3, 1) := by decide +kernel
theorem dX6_nomads_71 : decode cX6_nomads 71 = .ok (.iconst 1, 1) := by decide +kernel
theorem dX6_nomads_72 : decode cX6_nomads 72 = .ok (.iload 4, 2) := by decide +kernel
theorem dX6_nomads_74 : decode cX6_nomads 74 = .ok (.invokevirtual 79, 3) := by decide +kernel
theorem dX6_nomads_77 : decode cX6_nomads 77 = .ok (.aload_n 0, 1) := by decide +kernel
theorem dX6_nomads_78 : decode cX6_nomads 78 = .ok (.invokevirtual 156, 3) := by decide +kernel
theorem dX6_nomads_81 : decode cX6_nomads 81 = .ok (.iinc 2 1, 3) := by decide +kernel
theorem dX6_nomads_84 : decode cX6_nomads 84 = .ok (.goto (-45), 3) := by decide +kernel
theorem dX6_nomads_87 : decode cX6_nomads 87 = .ok (.aload_n 0, 1) := by decide +kernel
theorem dX6_nomads_88 : decode cX6_nomads 88 = .ok (.invokevirtual 166, 3) := by decide +kernel
theorem dX6_nomads_91 : decode cX6_nomads 91 = .ok (.ireturn, 1) := by decide +kernel
theorem dX6_dryPitches_0 : decode cX6_dryPitches 0 = .ok (.iconst 0, 1) := by decide +kernel
theorem dX6_dryPitches_1 : decode cX6_dryPitches 1 = .ok (.istore_n 1, 1) := by decide +kernel
theorem dX6_dryPitches_2 : decode cX6_dryPitches 2 = .ok (.iconst 0, 1) := by decide +kernel
theorem dX6_dryPitches_3 : decode cX6_dryPitches 3 = .ok (.istore_n 2, 1) := by decide +kernel
theorem dX6_dryPitches_4 : decode cX6_dryPitches 4 = .ok (.iload_n 2, 1) := by decide +kernel
theorem dX6_dryPitches_5 : decode cX6_dryPitches 5 = .ok (.bipush 16, 2) := by decide +kernel
theorem dX6_dryPitches_7 : decode cX6_dryPitches 7 = .ok (.if_icmp .ge 61, 3) := by decide +kernel
theorem dX6_dryPitches_10 : decode cX6_dryPitches 10 = .ok (.iconst 1, 1) := by decide +kernel
theorem dX6_dryPitches_11 : decode cX6_dryPitches 11 = .ok (.istore_n 3, 1) := by decide +kernel
theorem dX6_dryPitches_12 : decode cX6_dryPitches 12 = .ok (.iconst 0, 1) := by decide +kernel
theorem dX6_dryPitches_13 : decode cX6_dryPitches 13 = .ok (.istore 4, 2) := by decide +kernel
theorem dX6_dryPitches_15 : decode cX6_dryPitches 15 = .ok (.iload 4, 2) := by decide +kernel
theorem dX6_dryPitches_17 : decode cX6_dryPitches 17 = .ok (.iconst 4, 1) := by decide +kernel
theorem dX6_dryPitches_18 : decode cX6_dryPitches 18 = .ok (.if_icmp .ge 32, 3) := by decide +kernel
theorem dX6_dryPitches_21 : decode cX6_dryPitches 21 = .ok (.iload_n 3, 1) := by decide +kernel
theorem dX6_dryPitches_22 : decode cX6_dryPitches 22 = .ok (.ifCond .eq 20, 3) := by decide +kernel
theorem dX6_dryPitches_25 : decode cX6_dryPitches 25 = .ok (.aload_n 0, 1) := by decide +kernel
theorem dX6_dryPitches_26 : decode cX6_dryPitches 26 = .ok (.iload_n 2, 1) := by decide +kernel
theorem dX6_dryPitches_27 : decode cX6_dryPitches 27 = .ok (.iload 4, 2) := by decide +kernel
theorem dX6_dryPitches_29 : decode cX6_dryPitches 29 = .ok (.invokestatic 103, 3) := by decide +kernel
theorem dX6_dryPitches_32 : decode cX6_dryPitches 32 = .ok (.invokevirtual 96, 3) := by decide +kernel
theorem dX6_dryPitches_35 : decode cX6_dryPitches 35 = .ok (.ifCond .ne 7, 3) := by decide +kernel
theorem dX6_dryPitches_38 : decode cX6_dryPitches 38 = .ok (.iconst 1, 1) := by decide +kernel
theorem dX6_dryPitches_39 : decode cX6_dryPitches 39 = .ok (.goto 4, 3) := by decide +kernel
theorem dX6_dryPitches_42 : decode cX6_dryPitches 42 = .ok (.iconst 0, 1) := by decide +kernel
theorem dX6_dryPitches_43 : decode cX6_dryPitches 43 = .ok (.istore_n 3, 1) := by decide +kernel
theorem dX6_dryPitches_44 : decode cX6_dryPitches 44 = .ok (.iinc 4 1, 3) := by decide +kernel
theorem dX6_dryPitches_47 : decode cX6_dryPitches 47 = .ok (.goto (-32), 3) := by decide +kernel
theorem dX6_dryPitches_50 : decode cX6_dryPitches 50 = .ok (.iload_n 1, 1) := by decide +kernel
theorem dX6_dryPitches_51 : decode cX6_dryPitches 51 = .ok (.iload_n 3, 1) := by decide +kernel
theorem dX6_dryPitches_52 : decode cX6_dryPitches 52 = .ok (.ifCond .eq 7, 3) := by decide +kernel
theorem dX6_dryPitches_55 : decode cX6_dryPitches 55 = .ok (.iconst 1, 1) := by decide +kernel
theorem dX6_dryPitches_56 : decode cX6_dryPitches 56 = .ok (.goto 4, 3) := by decide +kernel
theorem dX6_dryPitches_59 : decode cX6_dryPitches 59 = .ok (.iconst 0, 1) := by decide +kernel
theorem dX6_dryPitches_60 : decode cX6_dryPitches 60 = .ok (.iadd, 1) := by decide +kernel
theorem dX6_dryPitches_61 : decode cX6_dryPitches 61 = .ok (.istore_n 1, 1) := by decide +kernel
theorem dX6_dryPitches_62 : decode cX6_dryPitches 62 = .ok (.iinc 2 1, 3) := by decide +kernel
theorem dX6_dryPitches_65 : decode cX6_dryPitches 65 = .ok (.goto (-61), 3) := by decide +kernel
theorem dX6_dryPitches_68 : decode cX6_dryPitches 68 = .ok (.iload_n 1, 1) := by decide +kernel
theorem dX6_dryPitches_69 : decode cX6_dryPitches 69 = .ok (.ireturn, 1) := by decide +kernel
theorem dX6_odds_0 : decode cX6_odds 0 = .ok (.iload_n 1, 1) := by decide +kernel
theorem dX6_odds_1 : decode cX6_odds 1 = .ok (.i2l, 1) := by decide +kernel
theorem dX6_odds_2 : decode cX6_odds 2 = .ok (.lconst 0, 1) := by decide +kernel
theorem dX6_odds_3 : decode cX6_odds 3 = .ok (.ldc2_w 54, 3) := by decide +kernel
theorem dX6_odds_6 : decode cX6_odds 6 = .ok (.invokestatic 48, 3) := by decide +kernel
theorem dX6_odds_9 : decode cX6_odds 9 = .ok (.ifCond .eq 13, 3) := by decide +kernel
theorem dX6_odds_12 : decode cX6_odds 12 = .ok (.iload_n 2, 1) := by decide +kernel
theorem dX6_odds_13 : decode cX6_odds 13 = .ok (.i2l, 1) := by decide +kernel
theorem dX6_odds_14 : decode cX6_odds 14 = .ok (.lconst 0, 1) := by decide +kernel
theorem dX6_odds_15 : decode cX6_odds 15 = .ok (.lconst 1, 1) := by decide +kernel
theorem dX6_odds_16 : decode cX6_odds 16 = .ok (.invokestatic 48, 3) := by decide +kernel
theorem dX6_odds_19 : decode cX6_odds 19 = .ok (.ifCond .ne 10, 3) := by decide +kernel
theorem dX6_odds_22 : decode cX6_odds 22 = .ok (.aload_n 0, 1) := by decide +kernel
theorem dX6_odds_23 : decode cX6_odds 23 = .ok (.iconst 0, 1) := by decide +kernel
theorem dX6_odds_24 : decode cX6_odds 24 = .ok (.invokevirtual 93, 3) := by decide +kernel
theorem dX6_odds_27 : decode cX6_odds 27 = .ok (.i2l, 1) := by decide +kernel
theorem dX6_odds_28 : decode cX6_odds 28 = .ok (.lreturn, 1) := by decide +kernel
theorem dX6_odds_29 : decode cX6_odds 29 = .ok (.lconst 1, 1) := by decide +kernel
theorem dX6_odds_30 : decode cX6_odds 30 = .ok (.lstore_n 3, 1) := by decide +kernel
theorem dX6_odds_31 : decode cX6_odds 31 = .ok (.lconst 1, 1) := by decide +kernel
theorem dX6_odds_32 : decode cX6_odds 32 = .ok (.lstore 5, 2) := by decide +kernel
theorem dX6_odds_34 : decode cX6_odds 34 = .ok (.iconst 0, 1) := by decide +kernel
theorem dX6_odds_35 : decode cX6_odds 35 = .ok (.istore 7, 2) := by decide +kernel
theorem dX6_odds_37 : decode cX6_odds 37 = .ok (.iload 7, 2) := by decide +kernel
theorem dX6_odds_39 : decode cX6_odds 39 = .ok (.iload_n 1, 1) := by decide +kernel
theorem dX6_odds_40 : decode cX6_odds 40 = .ok (.if_icmp .ge 25, 3) := by decide +kernel
theorem dX6_odds_43 : decode cX6_odds 43 = .ok (.lload_n 3, 1) := by decide +kernel
theorem dX6_odds_44 : decode cX6_odds 44 = .ok (.aload_n 0, 1) := by decide +kernel
theorem dX6_odds_45 : decode cX6_odds 45 = .ok (.invokevirtual 240, 3) := by decide +kernel
theorem dX6_odds_48 : decode cX6_odds 48 = .ok (.i2l, 1) := by decide +kernel
theorem dX6_odds_49 : decode cX6_odds 49 = .ok (.lmul, 1) := by decide +kernel
theorem dX6_odds_50 : decode cX6_odds 50 = .ok (.lstore_n 3, 1) := by decide +kernel
theorem dX6_odds_51 : decode cX6_odds 51 = .ok (.lload 5, 2) := by decide +kernel
theorem dX6_odds_53 : decode cX6_odds 53 = .ok (.ldc2_w 243, 3) := by decide +kernel
theorem dX6_odds_56 : decode cX6_odds 56 = .ok (.lmul, 1) := by decide +kernel
theorem dX6_odds_57 : decode cX6_odds 57 = .ok (.lstore 5, 2) := by decide +kernel
theorem dX6_odds_59 : decode cX6_odds 59 = .ok (.iinc 7 1, 3) := by decide +kernel
theorem dX6_odds_62 : decode cX6_odds 62 = .ok (.goto (-25), 3) := by decide +kernel
theorem dX6_odds_65 : decode cX6_odds 65 = .ok (.lload_n 3, 1) := by decide +kernel
theorem dX6_odds_66 : decode cX6_odds 66 = .ok (.lstore 7, 2) := by decide +kernel
theorem dX6_odds_68 : decode cX6_odds 68 = .ok (.lload 5, 2) := by decide +kernel
theorem dX6_odds_70 : decode cX6_odds 70 = .ok (.lstore 9, 2) := by decide +kernel
theorem dX6_odds_72 : decode cX6_odds 72 = .ok (.lload 9, 2) := by decide +kernel
theorem dX6_odds_74 : decode cX6_odds 74 = .ok (.lconst 0, 1) := by decide +kernel
theorem dX6_odds_75 : decode cX6_odds 75 = .ok (.lcmp, 1) := by decide +kernel
theorem dX6_odds_76 : decode cX6_odds 76 = .ok (.ifCond .eq 21, 3) := by decide +kernel
theorem dX6_odds_79 : decode cX6_odds 79 = .ok (.lload 7, 2) := by decide +kernel
theorem dX6_odds_81 : decode cX6_odds 81 = .ok (.lload 9, 2) := by decide +kernel
theorem dX6_odds_83 : decode cX6_odds 83 = .ok (.lrem, 1) := by decide +kernel
theorem dX6_odds_84 : decode cX6_odds 84 = .ok (.lstore 11, 2) := by decide +kernel
theorem dX6_odds_86 : decode cX6_odds 86 = .ok (.lload 9, 2) := by decide +kernel
