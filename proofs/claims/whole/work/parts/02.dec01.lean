theorem dX0_unlikeness_12 : decode cX0_unlikeness 12 = .ok (.aload_n 0, 1) := by decide +kernel
theorem dX0_unlikeness_13 : decode cX0_unlikeness 13 = .ok (.aload_n 1, 1) := by decide +kernel
theorem dX0_unlikeness_14 : decode cX0_unlikeness 14 = .ok (.iload 4, 2) := by decide +kernel
theorem dX0_unlikeness_16 : decode cX0_unlikeness 16 = .ok (.iload_n 2, 1) := by decide +kernel
theorem dX0_unlikeness_17 : decode cX0_unlikeness 17 = .ok (.invokevirtual 113, 3) := by decide +kernel
theorem dX0_unlikeness_20 : decode cX0_unlikeness 20 = .ok (.iadd, 1) := by decide +kernel
theorem dX0_unlikeness_21 : decode cX0_unlikeness 21 = .ok (.istore_n 3, 1) := by decide +kernel
theorem dX0_unlikeness_22 : decode cX0_unlikeness 22 = .ok (.iinc 4 1, 3) := by decide +kernel
theorem dX0_unlikeness_25 : decode cX0_unlikeness 25 = .ok (.goto (-20), 3) := by decide +kernel
theorem dX0_unlikeness_28 : decode cX0_unlikeness 28 = .ok (.iload_n 3, 1) := by decide +kernel
theorem dX0_unlikeness_29 : decode cX0_unlikeness 29 = .ok (.ireturn, 1) := by decide +kernel
theorem dX0_greatestGap_0 : decode cX0_greatestGap 0 = .ok (.iconst 0, 1) := by decide +kernel
theorem dX0_greatestGap_1 : decode cX0_greatestGap 1 = .ok (.istore_n 2, 1) := by decide +kernel
theorem dX0_greatestGap_2 : decode cX0_greatestGap 2 = .ok (.iconst 0, 1) := by decide +kernel
theorem dX0_greatestGap_3 : decode cX0_greatestGap 3 = .ok (.istore_n 3, 1) := by decide +kernel
theorem dX0_greatestGap_4 : decode cX0_greatestGap 4 = .ok (.iload_n 3, 1) := by decide +kernel
theorem dX0_greatestGap_5 : decode cX0_greatestGap 5 = .ok (.iconst 4, 1) := by decide +kernel
theorem dX0_greatestGap_6 : decode cX0_greatestGap 6 = .ok (.if_icmp .ge 24, 3) := by decide +kernel
theorem dX0_greatestGap_9 : decode cX0_greatestGap 9 = .ok (.iload_n 2, 1) := by decide +kernel
theorem dX0_greatestGap_10 : decode cX0_greatestGap 10 = .ok (.aload_n 0, 1) := by decide +kernel
theorem dX0_greatestGap_11 : decode cX0_greatestGap 11 = .ok (.aload_n 1, 1) := by decide +kernel
theorem dX0_greatestGap_12 : decode cX0_greatestGap 12 = .ok (.iload_n 3, 1) := by decide +kernel
theorem dX0_greatestGap_13 : decode cX0_greatestGap 13 = .ok (.aload_n 1, 1) := by decide +kernel
theorem dX0_greatestGap_14 : decode cX0_greatestGap 14 = .ok (.getfield 58, 3) := by decide +kernel
theorem dX0_greatestGap_17 : decode cX0_greatestGap 17 = .ok (.invokevirtual 113, 3) := by decide +kernel
theorem dX0_greatestGap_20 : decode cX0_greatestGap 20 = .ok (.invokestatic 99, 3) := by decide +kernel
theorem dX0_greatestGap_23 : decode cX0_greatestGap 23 = .ok (.istore_n 2, 1) := by decide +kernel
theorem dX0_greatestGap_24 : decode cX0_greatestGap 24 = .ok (.iinc 3 1, 3) := by decide +kernel
theorem dX0_greatestGap_27 : decode cX0_greatestGap 27 = .ok (.goto (-23), 3) := by decide +kernel
theorem dX0_greatestGap_30 : decode cX0_greatestGap 30 = .ok (.iload_n 2, 1) := by decide +kernel
theorem dX0_greatestGap_31 : decode cX0_greatestGap 31 = .ok (.ireturn, 1) := by decide +kernel
theorem dX1_init_0 : decode cX1_init 0 = .ok (.aload_n 0, 1) := by decide +kernel
theorem dX1_init_1 : decode cX1_init 1 = .ok (.invokespecial 3, 3) := by decide +kernel
theorem dX1_init_4 : decode cX1_init 4 = .ok (.aload_n 0, 1) := by decide +kernel
theorem dX1_init_5 : decode cX1_init 5 = .ok (.bipush 25, 2) := by decide +kernel
theorem dX1_init_7 : decode cX1_init 7 = .ok (.newarray .int, 2) := by decide +kernel
theorem dX1_init_9 : decode cX1_init 9 = .ok (.putfield 9, 3) := by decide +kernel
theorem dX1_init_12 : decode cX1_init 12 = .ok (.aload_n 0, 1) := by decide +kernel
theorem dX1_init_13 : decode cX1_init 13 = .ok (.bipush 25, 2) := by decide +kernel
theorem dX1_init_15 : decode cX1_init 15 = .ok (.newarray .int, 2) := by decide +kernel
theorem dX1_init_17 : decode cX1_init 17 = .ok (.putfield 15, 3) := by decide +kernel
theorem dX1_init_20 : decode cX1_init 20 = .ok (.aload_n 0, 1) := by decide +kernel
theorem dX1_init_21 : decode cX1_init 21 = .ok (.bipush 25, 2) := by decide +kernel
theorem dX1_init_23 : decode cX1_init 23 = .ok (.newarray .int, 2) := by decide +kernel
theorem dX1_init_25 : decode cX1_init 25 = .ok (.putfield 18, 3) := by decide +kernel
theorem dX1_init_28 : decode cX1_init 28 = .ok (.aload_n 0, 1) := by decide +kernel
theorem dX1_init_29 : decode cX1_init 29 = .ok (.iconst 0, 1) := by decide +kernel
theorem dX1_init_30 : decode cX1_init 30 = .ok (.putfield 21, 3) := by decide +kernel
theorem dX1_init_33 : decode cX1_init 33 = .ok (.return_, 1) := by decide +kernel
theorem dX1_stepsBetween_0 : decode cX1_stepsBetween 0 = .ok (.aload_n 0, 1) := by decide +kernel
theorem dX1_stepsBetween_1 : decode cX1_stepsBetween 1 = .ok (.aload_n 1, 1) := by decide +kernel
theorem dX1_stepsBetween_2 : decode cX1_stepsBetween 2 = .ok (.iload_n 2, 1) := by decide +kernel
theorem dX1_stepsBetween_3 : decode cX1_stepsBetween 3 = .ok (.iload 4, 2) := by decide +kernel
theorem dX1_stepsBetween_5 : decode cX1_stepsBetween 5 = .ok (.invokevirtual 25, 3) := by decide +kernel
theorem dX1_stepsBetween_8 : decode cX1_stepsBetween 8 = .ok (.aload_n 0, 1) := by decide +kernel
theorem dX1_stepsBetween_9 : decode cX1_stepsBetween 9 = .ok (.getfield 9, 3) := by decide +kernel
theorem dX1_stepsBetween_12 : decode cX1_stepsBetween 12 = .ok (.iload_n 3, 1) := by decide +kernel
theorem dX1_stepsBetween_13 : decode cX1_stepsBetween 13 = .ok (.iaload, 1) := by decide +kernel
theorem dX1_stepsBetween_14 : decode cX1_stepsBetween 14 = .ok (.ireturn, 1) := by decide +kernel
theorem dX1_roam_0 : decode cX1_roam 0 = .ok (.aload_n 0, 1) := by decide +kernel
theorem dX1_roam_1 : decode cX1_roam 1 = .ok (.getfield 9, 3) := by decide +kernel
theorem dX1_roam_4 : decode cX1_roam 4 = .ok (.iconst (-1), 1) := by decide +kernel
theorem dX1_roam_5 : decode cX1_roam 5 = .ok (.invokestatic 29, 3) := by decide +kernel
theorem dX1_roam_8 : decode cX1_roam 8 = .ok (.aload_n 0, 1) := by decide +kernel
theorem dX1_roam_9 : decode cX1_roam 9 = .ok (.getfield 9, 3) := by decide +kernel
theorem dX1_roam_12 : decode cX1_roam 12 = .ok (.iload_n 2, 1) := by decide +kernel
theorem dX1_roam_13 : decode cX1_roam 13 = .ok (.iconst 0, 1) := by decide +kernel
theorem dX1_roam_14 : decode cX1_roam 14 = .ok (.iastore, 1) := by decide +kernel
theorem dX1_roam_15 : decode cX1_roam 15 = .ok (.aload_n 0, 1) := by decide +kernel
theorem dX1_roam_16 : decode cX1_roam 16 = .ok (.getfield 15, 3) := by decide +kernel
theorem dX1_roam_19 : decode cX1_roam 19 = .ok (.iconst 0, 1) := by decide +kernel
theorem dX1_roam_20 : decode cX1_roam 20 = .ok (.iload_n 2, 1) := by decide +kernel
theorem dX1_roam_21 : decode cX1_roam 21 = .ok (.iastore, 1) := by decide +kernel
theorem dX1_roam_22 : decode cX1_roam 22 = .ok (.iconst 1, 1) := by decide +kernel
theorem dX1_roam_23 : decode cX1_roam 23 = .ok (.istore 4, 2) := by decide +kernel
theorem dX1_roam_25 : decode cX1_roam 25 = .ok (.iconst 0, 1) := by decide +kernel
theorem dX1_roam_26 : decode cX1_roam 26 = .ok (.istore 5, 2) := by decide +kernel
theorem dX1_roam_28 : decode cX1_roam 28 = .ok (.iload 5, 2) := by decide +kernel
theorem dX1_roam_30 : decode cX1_roam 30 = .ok (.iload 4, 2) := by decide +kernel
theorem dX1_roam_32 : decode cX1_roam 32 = .ok (.if_icmp .ge 113, 3) := by decide +kernel
theorem dX1_roam_35 : decode cX1_roam 35 = .ok (.iload 5, 2) := by decide +kernel
theorem dX1_roam_37 : decode cX1_roam 37 = .ok (.bipush 25, 2) := by decide +kernel
theorem dX1_roam_39 : decode cX1_roam 39 = .ok (.if_icmp .ge 106, 3) := by decide +kernel
theorem dX1_roam_42 : decode cX1_roam 42 = .ok (.aload_n 0, 1) := by decide +kernel
theorem dX1_roam_43 : decode cX1_roam 43 = .ok (.getfield 15, 3) := by decide +kernel
theorem dX1_roam_46 : decode cX1_roam 46 = .ok (.iload 5, 2) := by decide +kernel
theorem dX1_roam_48 : decode cX1_roam 48 = .ok (.iaload, 1) := by decide +kernel
theorem dX1_roam_49 : decode cX1_roam 49 = .ok (.istore 6, 2) := by decide +kernel
theorem dX1_roam_51 : decode cX1_roam 51 = .ok (.iconst 0, 1) := by decide +kernel
theorem dX1_roam_52 : decode cX1_roam 52 = .ok (.istore 7, 2) := by decide +kernel
theorem dX1_roam_54 : decode cX1_roam 54 = .ok (.iload 7, 2) := by decide +kernel
theorem dX1_roam_56 : decode cX1_roam 56 = .ok (.iconst 4, 1) := by decide +kernel
theorem dX1_roam_57 : decode cX1_roam 57 = .ok (.if_icmp .ge 82, 3) := by decide +kernel
theorem dX1_roam_60 : decode cX1_roam 60 = .ok (.iload 6, 2) := by decide +kernel
theorem dX1_roam_62 : decode cX1_roam 62 = .ok (.iload 7, 2) := by decide +kernel
theorem dX1_roam_64 : decode cX1_roam 64 = .ok (.invokestatic 35, 3) := by decide +kernel
theorem dX1_roam_67 : decode cX1_roam 67 = .ok (.istore 8, 2) := by decide +kernel
theorem dX1_roam_69 : decode cX1_roam 69 = .ok (.iload 8, 2) := by decide +kernel
theorem dX1_roam_71 : decode cX1_roam 71 = .ok (.iconst (-1), 1) := by decide +kernel
theorem dX1_roam_72 : decode cX1_roam 72 = .ok (.if_icmp .eq 61, 3) := by decide +kernel
theorem dX1_roam_75 : decode cX1_roam 75 = .ok (.aload_n 0, 1) := by decide +kernel
theorem dX1_roam_76 : decode cX1_roam 76 = .ok (.getfield 9, 3) := by decide +kernel
theorem dX1_roam_79 : decode cX1_roam 79 = .ok (.iload 8, 2) := by decide +kernel
theorem dX1_roam_81 : decode cX1_roam 81 = .ok (.iaload, 1) := by decide +kernel
theorem dX1_roam_82 : decode cX1_roam 82 = .ok (.iconst (-1), 1) := by decide +kernel
theorem dX1_roam_83 : decode cX1_roam 83 = .ok (.if_icmp .ne 50, 3) := by decide +kernel
theorem dX1_roam_86 : decode cX1_roam 86 = .ok (.iload 4, 2) := by decide +kernel
theorem dX1_roam_88 : decode cX1_roam 88 = .ok (.bipush 25, 2) := by decide +kernel
theorem dX1_roam_90 : decode cX1_roam 90 = .ok (.if_icmp .ge 43, 3) := by decide +kernel
theorem dX1_roam_93 : decode cX1_roam 93 = .ok (.aload_n 1, 1) := by decide +kernel
theorem dX1_roam_94 : decode cX1_roam 94 = .ok (.iload 6, 2) := by decide +kernel
theorem dX1_roam_96 : decode cX1_roam 96 = .ok (.iload 8, 2) := by decide +kernel
theorem dX1_roam_98 : decode cX1_roam 98 = .ok (.invokevirtual 39, 3) := by decide +kernel
theorem dX1_roam_101 : decode cX1_roam 101 = .ok (.iload_n 3, 1) := by decide +kernel
theorem dX1_roam_102 : decode cX1_roam 102 = .ok (.if_icmp .gt 31, 3) := by decide +kernel
theorem dX1_roam_105 : decode cX1_roam 105 = .ok (.aload_n 0, 1) := by decide +kernel
theorem dX1_roam_106 : decode cX1_roam 106 = .ok (.getfield 9, 3) := by decide +kernel
theorem dX1_roam_109 : decode cX1_roam 109 = .ok (.iload 8, 2) := by decide +kernel
theorem dX1_roam_111 : decode cX1_roam 111 = .ok (.aload_n 0, 1) := by decide +kernel
theorem dX1_roam_112 : decode cX1_roam 112 = .ok (.getfield 9, 3) := by decide +kernel
theorem dX1_roam_115 : decode cX1_roam 115 = .ok (.iload 6, 2) := by decide +kernel
theorem dX1_roam_117 : decode cX1_roam 117 = .ok (.iaload, 1) := by decide +kernel
theorem dX1_roam_118 : decode cX1_roam 118 = .ok (.iconst 1, 1) := by decide +kernel
theorem dX1_roam_119 : decode cX1_roam 119 = .ok (.iadd, 1) := by decide +kernel
theorem dX1_roam_120 : decode cX1_roam 120 = .ok (.iastore, 1) := by decide +kernel
theorem dX1_roam_121 : decode cX1_roam 121 = .ok (.aload_n 0, 1) := by decide +kernel
theorem dX1_roam_122 : decode cX1_roam 122 = .ok (.getfield 15, 3) := by decide +kernel
theorem dX1_roam_125 : decode cX1_roam 125 = .ok (.iload 4, 2) := by decide +kernel
theorem dX1_roam_127 : decode cX1_roam 127 = .ok (.iload 8, 2) := by decide +kernel
theorem dX1_roam_129 : decode cX1_roam 129 = .ok (.iastore, 1) := by decide +kernel
theorem dX1_roam_130 : decode cX1_roam 130 = .ok (.iinc 4 1, 3) := by decide +kernel
theorem dX1_roam_133 : decode cX1_roam 133 = .ok (.iinc 7 1, 3) := by decide +kernel
theorem dX1_roam_136 : decode cX1_roam 136 = .ok (.goto (-82), 3) := by decide +kernel
theorem dX1_roam_139 : decode cX1_roam 139 = .ok (.iinc 5 1, 3) := by decide +kernel
theorem dX1_roam_142 : decode cX1_roam 142 = .ok (.goto (-114), 3) := by decide +kernel
theorem dX1_roam_145 : decode cX1_roam 145 = .ok (.return_, 1) := by decide +kernel
theorem dX1_reachedSet_0 : decode cX1_reachedSet 0 = .ok (.iconst 0, 1) := by decide +kernel
theorem dX1_reachedSet_1 : decode cX1_reachedSet 1 = .ok (.istore_n 1, 1) := by decide +kernel
theorem dX1_reachedSet_2 : decode cX1_reachedSet 2 = .ok (.iconst 0, 1) := by decide +kernel
theorem dX1_reachedSet_3 : decode cX1_reachedSet 3 = .ok (.istore_n 2, 1) := by decide +kernel
theorem dX1_reachedSet_4 : decode cX1_reachedSet 4 = .ok (.iload_n 2, 1) := by decide +kernel
theorem dX1_reachedSet_5 : decode cX1_reachedSet 5 = .ok (.bipush 25, 2) := by decide +kernel
theorem dX1_reachedSet_7 : decode cX1_reachedSet 7 = .ok (.if_icmp .ge 25, 3) := by decide +kernel
theorem dX1_reachedSet_10 : decode cX1_reachedSet 10 = .ok (.aload_n 0, 1) := by decide +kernel
theorem dX1_reachedSet_11 : decode cX1_reachedSet 11 = .ok (.getfield 9, 3) := by decide +kernel
theorem dX1_reachedSet_14 : decode cX1_reachedSet 14 = .ok (.iload_n 2, 1) := by decide +kernel
theorem dX1_reachedSet_15 : decode cX1_reachedSet 15 = .ok (.iaload, 1) := by decide +kernel
theorem dX1_reachedSet_16 : decode cX1_reachedSet 16 = .ok (.iconst (-1), 1) := by decide +kernel
theorem dX1_reachedSet_17 : decode cX1_reachedSet 17 = .ok (.if_icmp .eq 9, 3) := by decide +kernel
theorem dX1_reachedSet_20 : decode cX1_reachedSet 20 = .ok (.iload_n 1, 1) := by decide +kernel
theorem dX1_reachedSet_21 : decode cX1_reachedSet 21 = .ok (.iconst 1, 1) := by decide +kernel
theorem dX1_reachedSet_22 : decode cX1_reachedSet 22 = .ok (.iload_n 2, 1) := by decide +kernel
theorem dX1_reachedSet_23 : decode cX1_reachedSet 23 = .ok (.ishl, 1) := by decide +kernel
theorem dX1_reachedSet_24 : decode cX1_reachedSet 24 = .ok (.ior, 1) := by decide +kernel
theorem dX1_reachedSet_25 : decode cX1_reachedSet 25 = .ok (.istore_n 1, 1) := by decide +kernel
theorem dX1_reachedSet_26 : decode cX1_reachedSet 26 = .ok (.iinc 2 1, 3) := by decide +kernel
theorem dX1_reachedSet_29 : decode cX1_reachedSet 29 = .ok (.goto (-25), 3) := by decide +kernel
theorem dX1_reachedSet_32 : decode cX1_reachedSet 32 = .ok (.iload_n 1, 1) := by decide +kernel
theorem dX1_reachedSet_33 : decode cX1_reachedSet 33 = .ok (.ireturn, 1) := by decide +kernel
theorem dX1_nearestOf_0 : decode cX1_nearestOf 0 = .ok (.iconst (-1), 1) := by decide +kernel
theorem dX1_nearestOf_1 : decode cX1_nearestOf 1 = .ok (.istore_n 2, 1) := by decide +kernel
theorem dX1_nearestOf_2 : decode cX1_nearestOf 2 = .ok (.iconst 0, 1) := by decide +kernel
theorem dX1_nearestOf_3 : decode cX1_nearestOf 3 = .ok (.istore_n 3, 1) := by decide +kernel
theorem dX1_nearestOf_4 : decode cX1_nearestOf 4 = .ok (.iload_n 3, 1) := by decide +kernel
theorem dX1_nearestOf_5 : decode cX1_nearestOf 5 = .ok (.bipush 25, 2) := by decide +kernel
theorem dX1_nearestOf_7 : decode cX1_nearestOf 7 = .ok (.if_icmp .ge 62, 3) := by decide +kernel
theorem dX1_nearestOf_10 : decode cX1_nearestOf 10 = .ok (.iload_n 1, 1) := by decide +kernel
theorem dX1_nearestOf_11 : decode cX1_nearestOf 11 = .ok (.iload_n 3, 1) := by decide +kernel
theorem dX1_nearestOf_12 : decode cX1_nearestOf 12 = .ok (.iushr, 1) := by decide +kernel
theorem dX1_nearestOf_13 : decode cX1_nearestOf 13 = .ok (.iconst 1, 1) := by decide +kernel
theorem dX1_nearestOf_14 : decode cX1_nearestOf 14 = .ok (.iand, 1) := by decide +kernel
theorem dX1_nearestOf_15 : decode cX1_nearestOf 15 = .ok (.iconst 1, 1) := by decide +kernel
theorem dX1_nearestOf_16 : decode cX1_nearestOf 16 = .ok (.if_icmp .ne 17, 3) := by decide +kernel
theorem dX1_nearestOf_19 : decode cX1_nearestOf 19 = .ok (.aload_n 0, 1) := by decide +kernel
theorem dX1_nearestOf_20 : decode cX1_nearestOf 20 = .ok (.getfield 9, 3) := by decide +kernel
theorem dX1_nearestOf_23 : decode cX1_nearestOf 23 = .ok (.iload_n 3, 1) := by decide +kernel
theorem dX1_nearestOf_24 : decode cX1_nearestOf 24 = .ok (.iaload, 1) := by decide +kernel
theorem dX1_nearestOf_25 : decode cX1_nearestOf 25 = .ok (.iconst (-1), 1) := by decide +kernel
theorem dX1_nearestOf_26 : decode cX1_nearestOf 26 = .ok (.if_icmp .eq 7, 3) := by decide +kernel
theorem dX1_nearestOf_29 : decode cX1_nearestOf 29 = .ok (.iconst 1, 1) := by decide +kernel
theorem dX1_nearestOf_30 : decode cX1_nearestOf 30 = .ok (.goto 4, 3) := by decide +kernel
theorem dX1_nearestOf_33 : decode cX1_nearestOf 33 = .ok (.iconst 0, 1) := by decide +kernel
theorem dX1_nearestOf_34 : decode cX1_nearestOf 34 = .ok (.istore 4, 2) := by decide +kernel
theorem dX1_nearestOf_36 : decode cX1_nearestOf 36 = .ok (.iload 4, 2) := by decide +kernel
theorem dX1_nearestOf_38 : decode cX1_nearestOf 38 = .ok (.ifCond .eq 25, 3) := by decide +kernel
theorem dX1_nearestOf_41 : decode cX1_nearestOf 41 = .ok (.iload_n 2, 1) := by decide +kernel
theorem dX1_nearestOf_42 : decode cX1_nearestOf 42 = .ok (.iconst (-1), 1) := by decide +kernel
theorem dX1_nearestOf_43 : decode cX1_nearestOf 43 = .ok (.if_icmp .eq 18, 3) := by decide +kernel
theorem dX1_nearestOf_46 : decode cX1_nearestOf 46 = .ok (.aload_n 0, 1) := by decide +kernel
theorem dX1_nearestOf_47 : decode cX1_nearestOf 47 = .ok (.getfield 9, 3) := by decide +kernel
theorem dX1_nearestOf_50 : decode cX1_nearestOf 50 = .ok (.iload_n 3, 1) := by decide +kernel
theorem dX1_nearestOf_51 : decode cX1_nearestOf 51 = .ok (.iaload, 1) := by decide +kernel
theorem dX1_nearestOf_52 : decode cX1_nearestOf 52 = .ok (.aload_n 0, 1) := by decide +kernel
theorem dX1_nearestOf_53 : decode cX1_nearestOf 53 = .ok (.getfield 9, 3) := by decide +kernel
theorem dX1_nearestOf_56 : decode cX1_nearestOf 56 = .ok (.iload_n 2, 1) := by decide +kernel
theorem dX1_nearestOf_57 : decode cX1_nearestOf 57 = .ok (.iaload, 1) := by decide +kernel
theorem dX1_nearestOf_58 : decode cX1_nearestOf 58 = .ok (.if_icmp .ge 5, 3) := by decide +kernel
theorem dX1_nearestOf_61 : decode cX1_nearestOf 61 = .ok (.iload_n 3, 1) := by decide +kernel
theorem dX1_nearestOf_62 : decode cX1_nearestOf 62 = .ok (.istore_n 2, 1) := by decide +kernel
theorem dX1_nearestOf_63 : decode cX1_nearestOf 63 = .ok (.iinc 3 1, 3) := by decide +kernel
theorem dX1_nearestOf_66 : decode cX1_nearestOf 66 = .ok (.goto (-62), 3) := by decide +kernel
theorem dX1_nearestOf_69 : decode cX1_nearestOf 69 = .ok (.iload_n 2, 1) := by decide +kernel
theorem dX1_nearestOf_70 : decode cX1_nearestOf 70 = .ok (.ireturn, 1) := by decide +kernel
theorem dX1_leastClimb_0 : decode cX1_leastClimb 0 = .ok (.aload_n 0, 1) := by decide +kernel
theorem dX1_leastClimb_1 : decode cX1_leastClimb 1 = .ok (.getfield 18, 3) := by decide +kernel
theorem dX1_leastClimb_4 : decode cX1_leastClimb 4 = .ok (.bipush 99, 2) := by decide +kernel
theorem dX1_leastClimb_6 : decode cX1_leastClimb 6 = .ok (.invokestatic 29, 3) := by decide +kernel
theorem dX1_leastClimb_9 : decode cX1_leastClimb 9 = .ok (.aload_n 0, 1) := by decide +kernel
theorem dX1_leastClimb_10 : decode cX1_leastClimb 10 = .ok (.getfield 18, 3) := by decide +kernel
theorem dX1_leastClimb_13 : decode cX1_leastClimb 13 = .ok (.iload_n 2, 1) := by decide +kernel
theorem dX1_leastClimb_14 : decode cX1_leastClimb 14 = .ok (.iconst 0, 1) := by decide +kernel
theorem dX1_leastClimb_15 : decode cX1_leastClimb 15 = .ok (.iastore, 1) := by decide +kernel
theorem dX1_leastClimb_16 : decode cX1_leastClimb 16 = .ok (.aload_n 0, 1) := by decide +kernel
theorem dX1_leastClimb_17 : decode cX1_leastClimb 17 = .ok (.iconst 0, 1) := by decide +kernel
theorem dX1_leastClimb_18 : decode cX1_leastClimb 18 = .ok (.putfield 21, 3) := by decide +kernel
theorem dX1_leastClimb_21 : decode cX1_leastClimb 21 = .ok (.iconst 0, 1) := by decide +kernel
theorem dX1_leastClimb_22 : decode cX1_leastClimb 22 = .ok (.istore 4, 2) := by decide +kernel
theorem dX1_leastClimb_24 : decode cX1_leastClimb 24 = .ok (.iload 4, 2) := by decide +kernel
theorem dX1_leastClimb_26 : decode cX1_leastClimb 26 = .ok (.bipush 25, 2) := by decide +kernel
theorem dX1_leastClimb_28 : decode cX1_leastClimb 28 = .ok (.if_icmp .ge 114, 3) := by decide +kernel
theorem dX1_leastClimb_31 : decode cX1_leastClimb 31 = .ok (.aload_n 0, 1) := by decide +kernel
theorem dX1_leastClimb_32 : decode cX1_leastClimb 32 = .ok (.iload_n 3, 1) := by decide +kernel
theorem dX1_leastClimb_33 : decode cX1_leastClimb 33 = .ok (.invokevirtual 44, 3) := by decide +kernel
theorem dX1_leastClimb_36 : decode cX1_leastClimb 36 = .ok (.ifCond .ne 106, 3) := by decide +kernel
theorem dX1_leastClimb_39 : decode cX1_leastClimb 39 = .ok (.aload_n 0, 1) := by decide +kernel
theorem dX1_leastClimb_40 : decode cX1_leastClimb 40 = .ok (.invokevirtual 48, 3) := by decide +kernel
theorem dX1_leastClimb_43 : decode cX1_leastClimb 43 = .ok (.istore 5, 2) := by decide +kernel
theorem dX1_leastClimb_45 : decode cX1_leastClimb 45 = .ok (.aload_n 0, 1) := by decide +kernel
theorem dX1_leastClimb_46 : decode cX1_leastClimb 46 = .ok (.dup, 1) := by decide +kernel
theorem dX1_leastClimb_47 : decode cX1_leastClimb 47 = .ok (.getfield 21, 3) := by decide +kernel
theorem dX1_leastClimb_50 : decode cX1_leastClimb 50 = .ok (.iconst 1, 1) := by decide +kernel
theorem dX1_leastClimb_51 : decode cX1_leastClimb 51 = .ok (.iload 5, 2) := by decide +kernel
theorem dX1_leastClimb_53 : decode cX1_leastClimb 53 = .ok (.ishl, 1) := by decide +kernel
theorem dX1_leastClimb_54 : decode cX1_leastClimb 54 = .ok (.ior, 1) := by decide +kernel
theorem dX1_leastClimb_55 : decode cX1_leastClimb 55 = .ok (.putfield 21, 3) := by decide +kernel
theorem dX1_leastClimb_58 : decode cX1_leastClimb 58 = .ok (.iconst 0, 1) := by decide +kernel
theorem dX1_leastClimb_59 : decode cX1_leastClimb 59 = .ok (.istore 6, 2) := by decide +kernel
theorem dX1_leastClimb_61 : decode cX1_leastClimb 61 = .ok (.iload 6, 2) := by decide +kernel
theorem dX1_leastClimb_63 : decode cX1_leastClimb 63 = .ok (.iconst 4, 1) := by decide +kernel
theorem dX1_leastClimb_64 : decode cX1_leastClimb 64 = .ok (.if_icmp .ge 72, 3) := by decide +kernel
theorem dX1_leastClimb_67 : decode cX1_leastClimb 67 = .ok (.iload 5, 2) := by decide +kernel
theorem dX1_leastClimb_69 : decode cX1_leastClimb 69 = .ok (.iload 6, 2) := by decide +kernel
theorem dX1_leastClimb_71 : decode cX1_leastClimb 71 = .ok (.invokestatic 35, 3) := by decide +kernel
theorem dX1_leastClimb_74 : decode cX1_leastClimb 74 = .ok (.istore 7, 2) := by decide +kernel
theorem dX1_leastClimb_76 : decode cX1_leastClimb 76 = .ok (.iload 7, 2) := by decide +kernel
theorem dX1_leastClimb_78 : decode cX1_leastClimb 78 = .ok (.iconst (-1), 1) := by decide +kernel
theorem dX1_leastClimb_79 : decode cX1_leastClimb 79 = .ok (.if_icmp .eq 51, 3) := by decide +kernel
theorem dX1_leastClimb_82 : decode cX1_leastClimb 82 = .ok (.aload_n 0, 1) := by decide +kernel
theorem dX1_leastClimb_83 : decode cX1_leastClimb 83 = .ok (.iload 7, 2) := by decide +kernel
theorem dX1_leastClimb_85 : decode cX1_leastClimb 85 = .ok (.invokevirtual 44, 3) := by decide +kernel
theorem dX1_leastClimb_88 : decode cX1_leastClimb 88 = .ok (.ifCond .ne 42, 3) := by decide +kernel
theorem dX1_leastClimb_91 : decode cX1_leastClimb 91 = .ok (.aload_n 0, 1) := by decide +kernel
theorem dX1_leastClimb_92 : decode cX1_leastClimb 92 = .ok (.getfield 18, 3) := by decide +kernel
theorem dX1_leastClimb_95 : decode cX1_leastClimb 95 = .ok (.iload 5, 2) := by decide +kernel
theorem dX1_leastClimb_97 : decode cX1_leastClimb 97 = .ok (.iaload, 1) := by decide +kernel
theorem dX1_leastClimb_98 : decode cX1_leastClimb 98 = .ok (.aload_n 1, 1) := by decide +kernel
theorem dX1_leastClimb_99 : decode cX1_leastClimb 99 = .ok (.iload 5, 2) := by decide +kernel
theorem dX1_leastClimb_101 : decode cX1_leastClimb 101 = .ok (.iload 7, 2) := by decide +kernel
theorem dX1_leastClimb_103 : decode cX1_leastClimb 103 = .ok (.invokevirtual 39, 3) := by decide +kernel
theorem dX1_leastClimb_106 : decode cX1_leastClimb 106 = .ok (.invokestatic 52, 3) := by decide +kernel
theorem dX1_leastClimb_109 : decode cX1_leastClimb 109 = .ok (.istore 8, 2) := by decide +kernel
theorem dX1_leastClimb_111 : decode cX1_leastClimb 111 = .ok (.aload_n 0, 1) := by decide +kernel
theorem dX1_leastClimb_112 : decode cX1_leastClimb 112 = .ok (.getfield 18, 3) := by decide +kernel
theorem dX1_leastClimb_115 : decode cX1_leastClimb 115 = .ok (.iload 7, 2) := by decide +kernel
theorem dX1_leastClimb_117 : decode cX1_leastClimb 117 = .ok (.aload_n 0, 1) := by decide +kernel
theorem dX1_leastClimb_118 : decode cX1_leastClimb 118 = .ok (.getfield 18, 3) := by decide +kernel
theorem dX1_leastClimb_121 : decode cX1_leastClimb 121 = .ok (.iload 7, 2) := by decide +kernel
theorem dX1_leastClimb_123 : decode cX1_leastClimb 123 = .ok (.iaload, 1) := by decide +kernel
theorem dX1_leastClimb_124 : decode cX1_leastClimb 124 = .ok (.iload 8, 2) := by decide +kernel
theorem dX1_leastClimb_126 : decode cX1_leastClimb 126 = .ok (.invokestatic 57, 3) := by decide +kernel
theorem dX1_leastClimb_129 : decode cX1_leastClimb 129 = .ok (.iastore, 1) := by decide +kernel
theorem dX1_leastClimb_130 : decode cX1_leastClimb 130 = .ok (.iinc 6 1, 3) := by decide +kernel
theorem dX1_leastClimb_133 : decode cX1_leastClimb 133 = .ok (.goto (-72), 3) := by decide +kernel
theorem dX1_leastClimb_136 : decode cX1_leastClimb 136 = .ok (.iinc 4 1, 3) := by decide +kernel
theorem dX1_leastClimb_139 : decode cX1_leastClimb 139 = .ok (.goto (-115), 3) := by decide +kernel
theorem dX1_leastClimb_142 : decode cX1_leastClimb 142 = .ok (.aload_n 0, 1) := by decide +kernel
theorem dX1_leastClimb_143 : decode cX1_leastClimb 143 = .ok (.getfield 18, 3) := by decide +kernel
theorem dX1_leastClimb_146 : decode cX1_leastClimb 146 = .ok (.iload_n 3, 1) := by decide +kernel
theorem dX1_leastClimb_147 : decode cX1_leastClimb 147 = .ok (.iaload, 1) := by decide +kernel
theorem dX1_leastClimb_148 : decode cX1_leastClimb 148 = .ok (.ireturn, 1) := by decide +kernel
theorem dX1_isSettled_0 : decode cX1_isSettled 0 = .ok (.aload_n 0, 1) := by decide +kernel
theorem dX1_isSettled_1 : decode cX1_isSettled 1 = .ok (.getfield 21, 3) := by decide +kernel
theorem dX1_isSettled_4 : decode cX1_isSettled 4 = .ok (.iload_n 1, 1) := by decide +kernel
theorem dX1_isSettled_5 : decode cX1_isSettled 5 = .ok (.iushr, 1) := by decide +kernel
theorem dX1_isSettled_6 : decode cX1_isSettled 6 = .ok (.iconst 1, 1) := by decide +kernel
theorem dX1_isSettled_7 : decode cX1_isSettled 7 = .ok (.iand, 1) := by decide +kernel
theorem dX1_isSettled_8 : decode cX1_isSettled 8 = .ok (.iconst 1, 1) := by decide +kernel
theorem dX1_isSettled_9 : decode cX1_isSettled 9 = .ok (.if_icmp .ne 7, 3) := by decide +kernel
theorem dX1_isSettled_12 : decode cX1_isSettled 12 = .ok (.iconst 1, 1) := by decide +kernel
theorem dX1_isSettled_13 : decode cX1_isSettled 13 = .ok (.goto 4, 3) := by decide +kernel
theorem dX1_isSettled_16 : decode cX1_isSettled 16 = .ok (.iconst 0, 1) := by decide +kernel
theorem dX1_isSettled_17 : decode cX1_isSettled 17 = .ok (.ireturn, 1) := by decide +kernel
theorem dX1_easiest_0 : decode cX1_easiest 0 = .ok (.iconst 0, 1) := by decide +kernel
theorem dX1_easiest_1 : decode cX1_easiest 1 = .ok (.istore_n 1, 1) := by decide +kernel
theorem dX1_easiest_2 : decode cX1_easiest 2 = .ok (.iconst 1, 1) := by decide +kernel
theorem dX1_easiest_3 : decode cX1_easiest 3 = .ok (.istore_n 2, 1) := by decide +kernel
theorem dX1_easiest_4 : decode cX1_easiest 4 = .ok (.iload_n 2, 1) := by decide +kernel
theorem dX1_easiest_5 : decode cX1_easiest 5 = .ok (.bipush 25, 2) := by decide +kernel
theorem dX1_easiest_7 : decode cX1_easiest 7 = .ok (.if_icmp .ge 42, 3) := by decide +kernel
theorem dX1_easiest_10 : decode cX1_easiest 10 = .ok (.aload_n 0, 1) := by decide +kernel
theorem dX1_easiest_11 : decode cX1_easiest 11 = .ok (.iload_n 2, 1) := by decide +kernel
theorem dX1_easiest_12 : decode cX1_easiest 12 = .ok (.invokevirtual 44, 3) := by decide +kernel
theorem dX1_easiest_15 : decode cX1_easiest 15 = .ok (.ifCond .ne 28, 3) := by decide +kernel
theorem dX1_easiest_18 : decode cX1_easiest 18 = .ok (.aload_n 0, 1) := by decide +kernel
theorem dX1_easiest_19 : decode cX1_easiest 19 = .ok (.iload_n 1, 1) := by decide +kernel
theorem dX1_easiest_20 : decode cX1_easiest 20 = .ok (.invokevirtual 44, 3) := by decide +kernel
theorem dX1_easiest_23 : decode cX1_easiest 23 = .ok (.ifCond .ne 18, 3) := by decide +kernel
theorem dX1_easiest_26 : decode cX1_easiest 26 = .ok (.aload_n 0, 1) := by decide +kernel
theorem dX1_easiest_27 : decode cX1_easiest 27 = .ok (.getfield 18, 3) := by decide +kernel
theorem dX1_easiest_30 : decode cX1_easiest 30 = .ok (.iload_n 2, 1) := by decide +kernel
theorem dX1_easiest_31 : decode cX1_easiest 31 = .ok (.iaload, 1) := by decide +kernel
theorem dX1_easiest_32 : decode cX1_easiest 32 = .ok (.aload_n 0, 1) := by decide +kernel
theorem dX1_easiest_33 : decode cX1_easiest 33 = .ok (.getfield 18, 3) := by decide +kernel
theorem dX1_easiest_36 : decode cX1_easiest 36 = .ok (.iload_n 1, 1) := by decide +kernel
theorem dX1_easiest_37 : decode cX1_easiest 37 = .ok (.iaload, 1) := by decide +kernel
theorem dX1_easiest_38 : decode cX1_easiest 38 = .ok (.if_icmp .ge 5, 3) := by decide +kernel
theorem dX1_easiest_41 : decode cX1_easiest 41 = .ok (.iload_n 2, 1) := by decide +kernel
theorem dX1_easiest_42 : decode cX1_easiest 42 = .ok (.istore_n 1, 1) := by decide +kernel
theorem dX1_easiest_43 : decode cX1_easiest 43 = .ok (.iinc 2 1, 3) := by decide +kernel
theorem dX1_easiest_46 : decode cX1_easiest 46 = .ok (.goto (-42), 3) := by decide +kernel
theorem dX1_easiest_49 : decode cX1_easiest 49 = .ok (.iload_n 1, 1) := by decide +kernel
theorem dX1_easiest_50 : decode cX1_easiest 50 = .ok (.ireturn, 1) := by decide +kernel
theorem dX3_init_0 : decode cX3_init 0 = .ok (.aload_n 0, 1) := by decide +kernel
theorem dX3_init_1 : decode cX3_init 1 = .ok (.invokespecial 3, 3) := by decide +kernel
theorem dX3_init_4 : decode cX3_init 4 = .ok (.aload_n 0, 1) := by decide +kernel
theorem dX3_init_5 : decode cX3_init 5 = .ok (.bipush 120, 2) := by decide +kernel
theorem dX3_init_7 : decode cX3_init 7 = .ok (.newarray .int, 2) := by decide +kernel
theorem dX3_init_9 : decode cX3_init 9 = .ok (.putfield 9, 3) := by decide +kernel
theorem dX3_init_12 : decode cX3_init 12 = .ok (.aload_n 0, 1) := by decide +kernel
theorem dX3_init_13 : decode cX3_init 13 = .ok (.iconst 0, 1) := by decide +kernel
theorem dX3_init_14 : decode cX3_init 14 = .ok (.putfield 15, 3) := by decide +kernel
theorem dX3_init_17 : decode cX3_init 17 = .ok (.aload_n 0, 1) := by decide +kernel
theorem dX3_init_18 : decode cX3_init 18 = .ok (.iconst 0, 1) := by decide +kernel
theorem dX3_init_19 : decode cX3_init 19 = .ok (.putfield 19, 3) := by decide +kernel
theorem dX3_init_22 : decode cX3_init 22 = .ok (.aload_n 0, 1) := by decide +kernel
theorem dX3_init_23 : decode cX3_init 23 = .ok (.iconst 0, 1) := by decide +kernel
theorem dX3_init_24 : decode cX3_init 24 = .ok (.putfield 22, 3) := by decide +kernel
theorem dX3_init_27 : decode cX3_init 27 = .ok (.aload_n 0, 1) := by decide +kernel
theorem dX3_init_28 : decode cX3_init 28 = .ok (.iconst 0, 1) := by decide +kernel
theorem dX3_init_29 : decode cX3_init 29 = .ok (.putfield 25, 3) := by decide +kernel
theorem dX3_init_32 : decode cX3_init 32 = .ok (.aload_n 0, 1) := by decide +kernel
theorem dX3_init_33 : decode cX3_init 33 = .ok (.iconst 0, 1) := by decide +kernel
theorem dX3_init_34 : decode cX3_init 34 = .ok (.putfield 28, 3) := by decide +kernel
theorem dX3_init_37 : decode cX3_init 37 = .ok (.return_, 1) := by decide +kernel
theorem dX3_append_0 : decode cX3_append 0 = .ok (.aload_n 0, 1) := by decide +kernel
theorem dX3_append_1 : decode cX3_append 1 = .ok (.getfield 15, 3) := by decide +kernel
theorem dX3_append_4 : decode cX3_append 4 = .ok (.bipush 120, 2) := by decide +kernel
theorem dX3_append_6 : decode cX3_append 6 = .ok (.if_icmp .ge 23, 3) := by decide +kernel
theorem dX3_append_9 : decode cX3_append 9 = .ok (.aload_n 0, 1) := by decide +kernel
theorem dX3_append_10 : decode cX3_append 10 = .ok (.getfield 9, 3) := by decide +kernel
theorem dX3_append_13 : decode cX3_append 13 = .ok (.aload_n 0, 1) := by decide +kernel
theorem dX3_append_14 : decode cX3_append 14 = .ok (.getfield 15, 3) := by decide +kernel
theorem dX3_append_17 : decode cX3_append 17 = .ok (.iload_n 1, 1) := by decide +kernel
theorem dX3_append_18 : decode cX3_append 18 = .ok (.iastore, 1) := by decide +kernel
theorem dX3_append_19 : decode cX3_append 19 = .ok (.aload_n 0, 1) := by decide +kernel
theorem dX3_append_20 : decode cX3_append 20 = .ok (.dup, 1) := by decide +kernel
theorem dX3_append_21 : decode cX3_append 21 = .ok (.getfield 15, 3) := by decide +kernel
theorem dX3_append_24 : decode cX3_append 24 = .ok (.iconst 1, 1) := by decide +kernel
theorem dX3_append_25 : decode cX3_append 25 = .ok (.iadd, 1) := by decide +kernel
theorem dX3_append_26 : decode cX3_append 26 = .ok (.putfield 15, 3) := by decide +kernel
theorem dX3_append_29 : decode cX3_append 29 = .ok (.return_, 1) := by decide +kernel
theorem dX3_readText_0 : decode cX3_readText 0 = .ok (.aload_n 0, 1) := by decide +kernel
theorem dX3_readText_1 : decode cX3_readText 1 = .ok (.iconst 0, 1) := by decide +kernel
theorem dX3_readText_2 : decode cX3_readText 2 = .ok (.putfield 25, 3) := by decide +kernel
theorem dX3_readText_5 : decode cX3_readText 5 = .ok (.aload_n 0, 1) := by decide +kernel
theorem dX3_readText_6 : decode cX3_readText 6 = .ok (.invokevirtual 31, 3) := by decide +kernel
theorem dX3_readText_9 : decode cX3_readText 9 = .ok (.iconst 1, 1) := by decide +kernel
theorem dX3_readText_10 : decode cX3_readText 10 = .ok (.istore_n 2, 1) := by decide +kernel
theorem dX3_readText_11 : decode cX3_readText 11 = .ok (.iload_n 2, 1) := by decide +kernel
theorem dX3_readText_12 : decode cX3_readText 12 = .ok (.bipush 120, 2) := by decide +kernel
theorem dX3_readText_14 : decode cX3_readText 14 = .ok (.if_icmp .gt 52, 3) := by decide +kernel
theorem dX3_readText_17 : decode cX3_readText 17 = .ok (.aload_n 0, 1) := by decide +kernel
theorem dX3_readText_18 : decode cX3_readText 18 = .ok (.aload_n 1, 1) := by decide +kernel
theorem dX3_readText_19 : decode cX3_readText 19 = .ok (.invokevirtual 34, 3) := by decide +kernel
theorem dX3_readText_22 : decode cX3_readText 22 = .ok (.ifCond .ne 10, 3) := by decide +kernel
theorem dX3_readText_25 : decode cX3_readText 25 = .ok (.iconst (-1), 1) := by decide +kernel
theorem dX3_readText_26 : decode cX3_readText 26 = .ok (.aload_n 0, 1) := by decide +kernel
theorem dX3_readText_27 : decode cX3_readText 27 = .ok (.getfield 22, 3) := by decide +kernel
theorem dX3_readText_30 : decode cX3_readText 30 = .ok (.isub, 1) := by decide +kernel
theorem dX3_readText_31 : decode cX3_readText 31 = .ok (.ireturn, 1) := by decide +kernel
theorem dX3_readText_32 : decode cX3_readText 32 = .ok (.aload_n 0, 1) := by decide +kernel
theorem dX3_readText_33 : decode cX3_readText 33 = .ok (.getfield 19, 3) := by decide +kernel
theorem dX3_readText_36 : decode cX3_readText 36 = .ok (.ifCond .ne 5, 3) := by decide +kernel
theorem dX3_readText_39 : decode cX3_readText 39 = .ok (.iload_n 2, 1) := by decide +kernel
theorem dX3_readText_40 : decode cX3_readText 40 = .ok (.ireturn, 1) := by decide +kernel
theorem dX3_readText_41 : decode cX3_readText 41 = .ok (.aload_n 0, 1) := by decide +kernel
theorem dX3_readText_42 : decode cX3_readText 42 = .ok (.getfield 19, 3) := by decide +kernel
theorem dX3_readText_45 : decode cX3_readText 45 = .ok (.iconst 3, 1) := by decide +kernel
theorem dX3_readText_46 : decode cX3_readText 46 = .ok (.if_icmp .eq 10, 3) := by decide +kernel
theorem dX3_readText_49 : decode cX3_readText 49 = .ok (.iconst (-1), 1) := by decide +kernel
theorem dX3_readText_50 : decode cX3_readText 50 = .ok (.aload_n 0, 1) := by decide +kernel
theorem dX3_readText_51 : decode cX3_readText 51 = .ok (.getfield 22, 3) := by decide +kernel
theorem dX3_readText_54 : decode cX3_readText 54 = .ok (.isub, 1) := by decide +kernel
theorem dX3_readText_55 : decode cX3_readText 55 = .ok (.ireturn, 1) := by decide +kernel
theorem dX3_readText_56 : decode cX3_readText 56 = .ok (.aload_n 0, 1) := by decide +kernel
theorem dX3_readText_57 : decode cX3_readText 57 = .ok (.invokevirtual 31, 3) := by decide +kernel
theorem dX3_readText_60 : decode cX3_readText 60 = .ok (.iinc 2 1, 3) := by decide +kernel
theorem dX3_readText_63 : decode cX3_readText 63 = .ok (.goto (-52), 3) := by decide +kernel
theorem dX3_readText_66 : decode cX3_readText 66 = .ok (.iconst (-1), 1) := by decide +kernel
theorem dX3_readText_67 : decode cX3_readText 67 = .ok (.aload_n 0, 1) := by decide +kernel
theorem dX3_readText_68 : decode cX3_readText 68 = .ok (.getfield 22, 3) := by decide +kernel
theorem dX3_readText_71 : decode cX3_readText 71 = .ok (.isub, 1) := by decide +kernel
theorem dX3_readText_72 : decode cX3_readText 72 = .ok (.ireturn, 1) := by decide +kernel
theorem dX3_readItem_0 : decode cX3_readItem 0 = .ok (.iconst 0, 1) := by decide +kernel
theorem dX3_readItem_1 : decode cX3_readItem 1 = .ok (.istore_n 2, 1) := by decide +kernel
theorem dX3_readItem_2 : decode cX3_readItem 2 = .ok (.iload_n 2, 1) := by decide +kernel
theorem dX3_readItem_3 : decode cX3_readItem 3 = .ok (.bipush 7, 2) := by decide +kernel
theorem dX3_readItem_5 : decode cX3_readItem 5 = .ok (.if_icmp .ge 27, 3) := by decide +kernel
theorem dX3_readItem_8 : decode cX3_readItem 8 = .ok (.aload_n 0, 1) := by decide +kernel
theorem dX3_readItem_9 : decode cX3_readItem 9 = .ok (.iload_n 2, 1) := by decide +kernel
theorem dX3_readItem_10 : decode cX3_readItem 10 = .ok (.invokestatic 38, 3) := by decide +kernel
theorem dX3_readItem_13 : decode cX3_readItem 13 = .ok (.invokevirtual 42, 3) := by decide +kernel
theorem dX3_readItem_16 : decode cX3_readItem 16 = .ok (.ifCond .eq 10, 3) := by decide +kernel
theorem dX3_readItem_19 : decode cX3_readItem 19 = .ok (.aload_n 0, 1) := by decide +kernel
theorem dX3_readItem_20 : decode cX3_readItem 20 = .ok (.aload_n 1, 1) := by decide +kernel
theorem dX3_readItem_21 : decode cX3_readItem 21 = .ok (.iload_n 2, 1) := by decide +kernel
theorem dX3_readItem_22 : decode cX3_readItem 22 = .ok (.invokevirtual 46, 3) := by decide +kernel
theorem dX3_readItem_25 : decode cX3_readItem 25 = .ok (.ireturn, 1) := by decide +kernel
theorem dX3_readItem_26 : decode cX3_readItem 26 = .ok (.iinc 2 1, 3) := by decide +kernel
theorem dX3_readItem_29 : decode cX3_readItem 29 = .ok (.goto (-27), 3) := by decide +kernel
theorem dX3_readItem_32 : decode cX3_readItem 32 = .ok (.aload_n 0, 1) := by decide +kernel
theorem dX3_readItem_33 : decode cX3_readItem 33 = .ok (.ldc 50, 2) := by decide +kernel
theorem dX3_readItem_35 : decode cX3_readItem 35 = .ok (.invokevirtual 42, 3) := by decide +kernel
theorem dX3_readItem_38 : decode cX3_readItem 38 = .ok (.ifCond .eq 9, 3) := by decide +kernel
theorem dX3_readItem_41 : decode cX3_readItem 41 = .ok (.aload_n 0, 1) := by decide +kernel
theorem dX3_readItem_42 : decode cX3_readItem 42 = .ok (.aload_n 1, 1) := by decide +kernel
theorem dX3_readItem_43 : decode cX3_readItem 43 = .ok (.invokevirtual 52, 3) := by decide +kernel
theorem dX3_readItem_46 : decode cX3_readItem 46 = .ok (.ireturn, 1) := by decide +kernel
theorem dX3_readItem_47 : decode cX3_readItem 47 = .ok (.aload_n 0, 1) := by decide +kernel
theorem dX3_readItem_48 : decode cX3_readItem 48 = .ok (.ldc 55, 2) := by decide +kernel
theorem dX3_readItem_50 : decode cX3_readItem 50 = .ok (.invokevirtual 42, 3) := by decide +kernel
theorem dX3_readItem_53 : decode cX3_readItem 53 = .ok (.ifCond .eq 10, 3) := by decide +kernel
theorem dX3_readItem_56 : decode cX3_readItem 56 = .ok (.aload_n 0, 1) := by decide +kernel
theorem dX3_readItem_57 : decode cX3_readItem 57 = .ok (.aload_n 1, 1) := by decide +kernel
theorem dX3_readItem_58 : decode cX3_readItem 58 = .ok (.iconst 1, 1) := by decide +kernel
theorem dX3_readItem_59 : decode cX3_readItem 59 = .ok (.invokevirtual 57, 3) := by decide +kernel
theorem dX3_readItem_62 : decode cX3_readItem 62 = .ok (.ireturn, 1) := by decide +kernel
theorem dX3_readItem_63 : decode cX3_readItem 63 = .ok (.aload_n 0, 1) := by decide +kernel
theorem dX3_readItem_64 : decode cX3_readItem 64 = .ok (.ldc 60, 2) := by decide +kernel
theorem dX3_readItem_66 : decode cX3_readItem 66 = .ok (.invokevirtual 42, 3) := by decide +kernel
theorem dX3_readItem_69 : decode cX3_readItem 69 = .ok (.ifCond .eq 16, 3) := by decide +kernel
theorem dX3_readItem_72 : decode cX3_readItem 72 = .ok (.aload_n 0, 1) := by decide +kernel
theorem dX3_readItem_73 : decode cX3_readItem 73 = .ok (.aload_n 1, 1) := by decide +kernel
theorem dX3_readItem_74 : decode cX3_readItem 74 = .ok (.iconst 0, 1) := by decide +kernel
theorem dX3_readItem_75 : decode cX3_readItem 75 = .ok (.invokevirtual 57, 3) := by decide +kernel
theorem dX3_readItem_78 : decode cX3_readItem 78 = .ok (.ifCond .eq 7, 3) := by decide +kernel
theorem dX3_readItem_81 : decode cX3_readItem 81 = .ok (.iconst 1, 1) := by decide +kernel
theorem dX3_readItem_82 : decode cX3_readItem 82 = .ok (.goto 4, 3) := by decide +kernel
theorem dX3_readItem_85 : decode cX3_readItem 85 = .ok (.iconst 0, 1) := by decide +kernel
theorem dX3_readItem_86 : decode cX3_readItem 86 = .ok (.ireturn, 1) := by decide +kernel
theorem dX3_nameOf_0 : decode cX3_nameOf 0 = .ok (.iload_n 0, 1) := by decide +kernel
theorem dX3_nameOf_1 : decode cX3_nameOf 1 = .ok (.tableswitch 57 1 6 #[39, 42, 45, 48, 51, 54], 39) := by decide +kernel
theorem dX3_nameOf_40 : decode cX3_nameOf 40 = .ok (.ldc 62, 2) := by decide +kernel
theorem dX3_nameOf_42 : decode cX3_nameOf 42 = .ok (.areturn, 1) := by decide +kernel
theorem dX3_nameOf_43 : decode cX3_nameOf 43 = .ok (.ldc 64, 2) := by decide +kernel
theorem dX3_nameOf_45 : decode cX3_nameOf 45 = .ok (.areturn, 1) := by decide +kernel
theorem dX3_nameOf_46 : decode cX3_nameOf 46 = .ok (.ldc 66, 2) := by decide +kernel
theorem dX3_nameOf_48 : decode cX3_nameOf 48 = .ok (.areturn, 1) := by decide +kernel
theorem dX3_nameOf_49 : decode cX3_nameOf 49 = .ok (.ldc 68, 2) := by decide +kernel
theorem dX3_nameOf_51 : decode cX3_nameOf 51 = .ok (.areturn, 1) := by decide +kernel
theorem dX3_nameOf_52 : decode cX3_nameOf 52 = .ok (.ldc 70, 2) := by decide +kernel
theorem dX3_nameOf_54 : decode cX3_nameOf 54 = .ok (.areturn, 1) := by decide +kernel
theorem dX3_nameOf_55 : decode cX3_nameOf 55 = .ok (.ldc 72, 2) := by decide +kernel
theorem dX3_nameOf_57 : decode cX3_nameOf 57 = .ok (.areturn, 1) := by decide +kernel
theorem dX3_nameOf_58 : decode cX3_nameOf 58 = .ok (.ldc 74, 2) := by decide +kernel
theorem dX3_nameOf_60 : decode cX3_nameOf 60 = .ok (.areturn, 1) := by decide +kernel
theorem dX3_readTent_0 : decode cX3_readTent 0 = .ok (.aload_n 1, 1) := by decide +kernel
theorem dX3_readTent_1 : decode cX3_readTent 1 = .ok (.getfield 76, 3) := by decide +kernel
theorem dX3_readTent_4 : decode cX3_readTent 4 = .ok (.bipush 6, 2) := by decide +kernel
theorem dX3_readTent_6 : decode cX3_readTent 6 = .ok (.if_icmp .lt 5, 3) := by decide +kernel
theorem dX3_readTent_9 : decode cX3_readTent 9 = .ok (.iconst 0, 1) := by decide +kernel
theorem dX3_readTent_10 : decode cX3_readTent 10 = .ok (.ireturn, 1) := by decide +kernel
theorem dX3_readTent_11 : decode cX3_readTent 11 = .ok (.aload_n 1, 1) := by decide +kernel
theorem dX3_readTent_12 : decode cX3_readTent 12 = .ok (.getfield 81, 3) := by decide +kernel
theorem dX3_readTent_15 : decode cX3_readTent 15 = .ok (.aload_n 1, 1) := by decide +kernel
theorem dX3_readTent_16 : decode cX3_readTent 16 = .ok (.getfield 76, 3) := by decide +kernel
theorem dX3_readTent_19 : decode cX3_readTent 19 = .ok (.aaload, 1) := by decide +kernel
theorem dX3_readTent_20 : decode cX3_readTent 20 = .ok (.astore_n 3, 1) := by decide +kernel
theorem dX3_readTent_21 : decode cX3_readTent 21 = .ok (.aload_n 1, 1) := by decide +kernel
theorem dX3_readTent_22 : decode cX3_readTent 22 = .ok (.iload_n 2, 1) := by decide +kernel
theorem dX3_readTent_23 : decode cX3_readTent 23 = .ok (.invokevirtual 85, 3) := by decide +kernel
theorem dX3_readTent_26 : decode cX3_readTent 26 = .ok (.aload_n 0, 1) := by decide +kernel
theorem dX3_readTent_27 : decode cX3_readTent 27 = .ok (.invokevirtual 31, 3) := by decide +kernel
theorem dX3_readTent_30 : decode cX3_readTent 30 = .ok (.aload_n 0, 1) := by decide +kernel
theorem dX3_readTent_31 : decode cX3_readTent 31 = .ok (.aload_n 3, 1) := by decide +kernel
theorem dX3_readTent_32 : decode cX3_readTent 32 = .ok (.invokevirtual 89, 3) := by decide +kernel
theorem dX3_readTent_35 : decode cX3_readTent 35 = .ok (.ifCond .eq 23, 3) := by decide +kernel
theorem dX3_readTent_38 : decode cX3_readTent 38 = .ok (.aload_n 0, 1) := by decide +kernel
theorem dX3_readTent_39 : decode cX3_readTent 39 = .ok (.aload_n 3, 1) := by decide +kernel
theorem dX3_readTent_40 : decode cX3_readTent 40 = .ok (.invokevirtual 93, 3) := by decide +kernel
theorem dX3_readTent_43 : decode cX3_readTent 43 = .ok (.ifCond .eq 15, 3) := by decide +kernel
theorem dX3_readTent_46 : decode cX3_readTent 46 = .ok (.aload_n 0, 1) := by decide +kernel
theorem dX3_readTent_47 : decode cX3_readTent 47 = .ok (.aload_n 3, 1) := by decide +kernel
theorem dX3_readTent_48 : decode cX3_readTent 48 = .ok (.invokevirtual 96, 3) := by decide +kernel
theorem dX3_readTent_51 : decode cX3_readTent 51 = .ok (.ifCond .eq 7, 3) := by decide +kernel
theorem dX3_readTent_54 : decode cX3_readTent 54 = .ok (.iconst 1, 1) := by decide +kernel
theorem dX3_readTent_55 : decode cX3_readTent 55 = .ok (.goto 4, 3) := by decide +kernel
theorem dX3_readTent_58 : decode cX3_readTent 58 = .ok (.iconst 0, 1) := by decide +kernel
theorem dX3_readTent_59 : decode cX3_readTent 59 = .ok (.ireturn, 1) := by decide +kernel
theorem dX3_readPitch_0 : decode cX3_readPitch 0 = .ok (.aload_n 0, 1) := by decide +kernel
theorem dX3_readPitch_1 : decode cX3_readPitch 1 = .ok (.ldc 99, 2) := by decide +kernel
theorem dX3_readPitch_3 : decode cX3_readPitch 3 = .ok (.invokevirtual 42, 3) := by decide +kernel
theorem dX3_readPitch_6 : decode cX3_readPitch 6 = .ok (.ifCond .ne 5, 3) := by decide +kernel
theorem dX3_readPitch_9 : decode cX3_readPitch 9 = .ok (.iconst 1, 1) := by decide +kernel
theorem dX3_readPitch_10 : decode cX3_readPitch 10 = .ok (.ireturn, 1) := by decide +kernel
theorem dX3_readPitch_11 : decode cX3_readPitch 11 = .ok (.aload_n 0, 1) := by decide +kernel
theorem dX3_readPitch_12 : decode cX3_readPitch 12 = .ok (.invokevirtual 31, 3) := by decide +kernel
theorem dX3_readPitch_15 : decode cX3_readPitch 15 = .ok (.aload_n 0, 1) := by decide +kernel
theorem dX3_readPitch_16 : decode cX3_readPitch 16 = .ok (.bipush 15, 2) := by decide +kernel
theorem dX3_readPitch_18 : decode cX3_readPitch 18 = .ok (.invokevirtual 101, 3) := by decide +kernel
theorem dX3_readPitch_21 : decode cX3_readPitch 21 = .ok (.ifCond .ne 5, 3) := by decide +kernel
theorem dX3_readPitch_24 : decode cX3_readPitch 24 = .ok (.iconst 0, 1) := by decide +kernel
theorem dX3_readPitch_25 : decode cX3_readPitch 25 = .ok (.ireturn, 1) := by decide +kernel
theorem dX3_readPitch_26 : decode cX3_readPitch 26 = .ok (.aload_n 1, 1) := by decide +kernel
theorem dX3_readPitch_27 : decode cX3_readPitch 27 = .ok (.aload_n 0, 1) := by decide +kernel
theorem dX3_readPitch_28 : decode cX3_readPitch 28 = .ok (.getfield 28, 3) := by decide +kernel
theorem dX3_readPitch_31 : decode cX3_readPitch 31 = .ok (.putfield 105, 3) := by decide +kernel
theorem dX3_readPitch_34 : decode cX3_readPitch 34 = .ok (.aload_n 0, 1) := by decide +kernel
theorem dX3_readPitch_35 : decode cX3_readPitch 35 = .ok (.invokevirtual 31, 3) := by decide +kernel
theorem dX3_readPitch_38 : decode cX3_readPitch 38 = .ok (.iconst 1, 1) := by decide +kernel
theorem dX3_readPitch_39 : decode cX3_readPitch 39 = .ok (.ireturn, 1) := by decide +kernel
theorem dX3_readWorn_0 : decode cX3_readWorn 0 = .ok (.aload_n 0, 1) := by decide +kernel
theorem dX3_readWorn_1 : decode cX3_readWorn 1 = .ok (.ldc 110, 2) := by decide +kernel
theorem dX3_readWorn_3 : decode cX3_readWorn 3 = .ok (.invokevirtual 42, 3) := by decide +kernel
theorem dX3_readWorn_6 : decode cX3_readWorn 6 = .ok (.ifCond .ne 5, 3) := by decide +kernel
theorem dX3_readWorn_9 : decode cX3_readWorn 9 = .ok (.iconst 1, 1) := by decide +kernel
theorem dX3_readWorn_10 : decode cX3_readWorn 10 = .ok (.ireturn, 1) := by decide +kernel
theorem dX3_readWorn_11 : decode cX3_readWorn 11 = .ok (.aload_n 0, 1) := by decide +kernel
theorem dX3_readWorn_12 : decode cX3_readWorn 12 = .ok (.invokevirtual 31, 3) := by decide +kernel
theorem dX3_readWorn_15 : decode cX3_readWorn 15 = .ok (.aload_n 0, 1) := by decide +kernel
theorem dX3_readWorn_16 : decode cX3_readWorn 16 = .ok (.bipush 99, 2) := by decide +kernel
theorem dX3_readWorn_18 : decode cX3_readWorn 18 = .ok (.invokevirtual 101, 3) := by decide +kernel
theorem dX3_readWorn_21 : decode cX3_readWorn 21 = .ok (.ifCond .ne 5, 3) := by decide +kernel
theorem dX3_readWorn_24 : decode cX3_readWorn 24 = .ok (.iconst 0, 1) := by decide +kernel
theorem dX3_readWorn_25 : decode cX3_readWorn 25 = .ok (.ireturn, 1) := by decide +kernel
theorem dX3_readWorn_26 : decode cX3_readWorn 26 = .ok (.aload_n 1, 1) := by decide +kernel
theorem dX3_readWorn_27 : decode cX3_readWorn 27 = .ok (.aload_n 0, 1) := by decide +kernel
theorem dX3_readWorn_28 : decode cX3_readWorn 28 = .ok (.getfield 28, 3) := by decide +kernel
theorem dX3_readWorn_31 : decode cX3_readWorn 31 = .ok (.putfield 112, 3) := by decide +kernel
theorem dX3_readWorn_34 : decode cX3_readWorn 34 = .ok (.aload_n 0, 1) := by decide +kernel
theorem dX3_readWorn_35 : decode cX3_readWorn 35 = .ok (.invokevirtual 31, 3) := by decide +kernel
theorem dX3_readWorn_38 : decode cX3_readWorn 38 = .ok (.iconst 1, 1) := by decide +kernel
theorem dX3_readWorn_39 : decode cX3_readWorn 39 = .ok (.ireturn, 1) := by decide +kernel
theorem dX3_readFelt_0 : decode cX3_readFelt 0 = .ok (.aload_n 0, 1) := by decide +kernel
theorem dX3_readFelt_1 : decode cX3_readFelt 1 = .ok (.ldc 114, 2) := by decide +kernel
theorem dX3_readFelt_3 : decode cX3_readFelt 3 = .ok (.invokevirtual 42, 3) := by decide +kernel
theorem dX3_readFelt_6 : decode cX3_readFelt 6 = .ok (.ifCond .ne 5, 3) := by decide +kernel
theorem dX3_readFelt_9 : decode cX3_readFelt 9 = .ok (.iconst 1, 1) := by decide +kernel
theorem dX3_readFelt_10 : decode cX3_readFelt 10 = .ok (.ireturn, 1) := by decide +kernel
theorem dX3_readFelt_11 : decode cX3_readFelt 11 = .ok (.aload_n 0, 1) := by decide +kernel
theorem dX3_readFelt_12 : decode cX3_readFelt 12 = .ok (.invokevirtual 31, 3) := by decide +kernel
theorem dX3_readFelt_15 : decode cX3_readFelt 15 = .ok (.iconst 0, 1) := by decide +kernel
theorem dX3_readFelt_16 : decode cX3_readFelt 16 = .ok (.istore_n 2, 1) := by decide +kernel
theorem dX3_readFelt_17 : decode cX3_readFelt 17 = .ok (.iload_n 2, 1) := by decide +kernel
theorem dX3_readFelt_18 : decode cX3_readFelt 18 = .ok (.iconst 4, 1) := by decide +kernel
theorem dX3_readFelt_19 : decode cX3_readFelt 19 = .ok (.if_icmp .ge 34, 3) := by decide +kernel
theorem dX3_readFelt_22 : decode cX3_readFelt 22 = .ok (.aload_n 0, 1) := by decide +kernel
theorem dX3_readFelt_23 : decode cX3_readFelt 23 = .ok (.bipush 99, 2) := by decide +kernel
theorem dX3_readFelt_25 : decode cX3_readFelt 25 = .ok (.invokevirtual 101, 3) := by decide +kernel
theorem dX3_readFelt_28 : decode cX3_readFelt 28 = .ok (.ifCond .ne 5, 3) := by decide +kernel
theorem dX3_readFelt_31 : decode cX3_readFelt 31 = .ok (.iconst 0, 1) := by decide +kernel
theorem dX3_readFelt_32 : decode cX3_readFelt 32 = .ok (.ireturn, 1) := by decide +kernel
theorem dX3_readFelt_33 : decode cX3_readFelt 33 = .ok (.aload_n 1, 1) := by decide +kernel
theorem dX3_readFelt_34 : decode cX3_readFelt 34 = .ok (.getfield 116, 3) := by decide +kernel
theorem dX3_readFelt_37 : decode cX3_readFelt 37 = .ok (.iload_n 2, 1) := by decide +kernel
theorem dX3_readFelt_38 : decode cX3_readFelt 38 = .ok (.aload_n 0, 1) := by decide +kernel
theorem dX3_readFelt_39 : decode cX3_readFelt 39 = .ok (.getfield 28, 3) := by decide +kernel
theorem dX3_readFelt_42 : decode cX3_readFelt 42 = .ok (.iastore, 1) := by decide +kernel
theorem dX3_readFelt_43 : decode cX3_readFelt 43 = .ok (.aload_n 0, 1) := by decide +kernel
theorem dX3_readFelt_44 : decode cX3_readFelt 44 = .ok (.invokevirtual 31, 3) := by decide +kernel
theorem dX3_readFelt_47 : decode cX3_readFelt 47 = .ok (.iinc 2 1, 3) := by decide +kernel
theorem dX3_readFelt_50 : decode cX3_readFelt 50 = .ok (.goto (-33), 3) := by decide +kernel
theorem dX3_readFelt_53 : decode cX3_readFelt 53 = .ok (.iconst 1, 1) := by decide +kernel
theorem dX3_readFelt_54 : decode cX3_readFelt 54 = .ok (.ireturn, 1) := by decide +kernel
theorem dX3_readHeight_0 : decode cX3_readHeight 0 = .ok (.aload_n 0, 1) := by decide +kernel
theorem dX3_readHeight_1 : decode cX3_readHeight 1 = .ok (.invokevirtual 31, 3) := by decide +kernel
theorem dX3_readHeight_4 : decode cX3_readHeight 4 = .ok (.aload_n 0, 1) := by decide +kernel
theorem dX3_readHeight_5 : decode cX3_readHeight 5 = .ok (.bipush 24, 2) := by decide +kernel
theorem dX3_readHeight_7 : decode cX3_readHeight 7 = .ok (.invokevirtual 101, 3) := by decide +kernel
theorem dX3_readHeight_10 : decode cX3_readHeight 10 = .ok (.ifCond .ne 5, 3) := by decide +kernel
theorem dX3_readHeight_13 : decode cX3_readHeight 13 = .ok (.iconst 0, 1) := by decide +kernel
theorem dX3_readHeight_14 : decode cX3_readHeight 14 = .ok (.ireturn, 1) := by decide +kernel
theorem dX3_readHeight_15 : decode cX3_readHeight 15 = .ok (.aload_n 0, 1) := by decide +kernel
theorem dX3_readHeight_16 : decode cX3_readHeight 16 = .ok (.getfield 28, 3) := by decide +kernel
theorem dX3_readHeight_19 : decode cX3_readHeight 19 = .ok (.istore_n 2, 1) := by decide +kernel
theorem dX3_readHeight_20 : decode cX3_readHeight 20 = .ok (.aload_n 0, 1) := by decide +kernel
theorem dX3_readHeight_21 : decode cX3_readHeight 21 = .ok (.invokevirtual 31, 3) := by decide +kernel
theorem dX3_readHeight_24 : decode cX3_readHeight 24 = .ok (.aload_n 0, 1) := by decide +kernel
theorem dX3_readHeight_25 : decode cX3_readHeight 25 = .ok (.bipush 99, 2) := by decide +kernel
theorem dX3_readHeight_27 : decode cX3_readHeight 27 = .ok (.invokevirtual 101, 3) := by decide +kernel
theorem dX3_readHeight_30 : decode cX3_readHeight 30 = .ok (.ifCond .ne 5, 3) := by decide +kernel
theorem dX3_readHeight_33 : decode cX3_readHeight 33 = .ok (.iconst 0, 1) := by decide +kernel
theorem dX3_readHeight_34 : decode cX3_readHeight 34 = .ok (.ireturn, 1) := by decide +kernel
theorem dX3_readHeight_35 : decode cX3_readHeight 35 = .ok (.aload_n 1, 1) := by decide +kernel
theorem dX3_readHeight_36 : decode cX3_readHeight 36 = .ok (.getfield 118, 3) := by decide +kernel
theorem dX3_readHeight_39 : decode cX3_readHeight 39 = .ok (.iload_n 2, 1) := by decide +kernel
theorem dX3_readHeight_40 : decode cX3_readHeight 40 = .ok (.aload_n 0, 1) := by decide +kernel
theorem dX3_readHeight_41 : decode cX3_readHeight 41 = .ok (.getfield 28, 3) := by decide +kernel
theorem dX3_readHeight_44 : decode cX3_readHeight 44 = .ok (.iastore, 1) := by decide +kernel
theorem dX3_readHeight_45 : decode cX3_readHeight 45 = .ok (.aload_n 0, 1) := by decide +kernel
theorem dX3_readHeight_46 : decode cX3_readHeight 46 = .ok (.invokevirtual 31, 3) := by decide +kernel
theorem dX3_readHeight_49 : decode cX3_readHeight 49 = .ok (.iconst 1, 1) := by decide +kernel
theorem dX3_readHeight_50 : decode cX3_readHeight 50 = .ok (.ireturn, 1) := by decide +kernel
theorem dX3_readSpring_0 : decode cX3_readSpring 0 = .ok (.aload_n 0, 1) := by decide +kernel
theorem dX3_readSpring_1 : decode cX3_readSpring 1 = .ok (.invokevirtual 31, 3) := by decide +kernel
theorem dX3_readSpring_4 : decode cX3_readSpring 4 = .ok (.aload_n 0, 1) := by decide +kernel
theorem dX3_readSpring_5 : decode cX3_readSpring 5 = .ok (.bipush 24, 2) := by decide +kernel
theorem dX3_readSpring_7 : decode cX3_readSpring 7 = .ok (.invokevirtual 101, 3) := by decide +kernel
theorem dX3_readSpring_10 : decode cX3_readSpring 10 = .ok (.ifCond .ne 5, 3) := by decide +kernel
theorem dX3_readSpring_13 : decode cX3_readSpring 13 = .ok (.iconst 0, 1) := by decide +kernel
theorem dX3_readSpring_14 : decode cX3_readSpring 14 = .ok (.ireturn, 1) := by decide +kernel
theorem dX3_readSpring_15 : decode cX3_readSpring 15 = .ok (.aload_n 1, 1) := by decide +kernel
theorem dX3_readSpring_16 : decode cX3_readSpring 16 = .ok (.aload_n 0, 1) := by decide +kernel
theorem dX3_readSpring_17 : decode cX3_readSpring 17 = .ok (.getfield 28, 3) := by decide +kernel
theorem dX3_readSpring_20 : decode cX3_readSpring 20 = .ok (.iload_n 2, 1) := by decide +kernel
theorem dX3_readSpring_21 : decode cX3_readSpring 21 = .ok (.invokevirtual 121, 3) := by decide +kernel
theorem dX3_readSpring_24 : decode cX3_readSpring 24 = .ok (.aload_n 0, 1) := by decide +kernel
theorem dX3_readSpring_25 : decode cX3_readSpring 25 = .ok (.invokevirtual 31, 3) := by decide +kernel
theorem dX3_readSpring_28 : decode cX3_readSpring 28 = .ok (.iconst 1, 1) := by decide +kernel
theorem dX3_readSpring_29 : decode cX3_readSpring 29 = .ok (.ireturn, 1) := by decide +kernel
theorem dX3_isNumberTo_0 : decode cX3_isNumberTo 0 = .ok (.aload_n 0, 1) := by decide +kernel
theorem dX3_isNumberTo_1 : decode cX3_isNumberTo 1 = .ok (.getfield 19, 3) := by decide +kernel
theorem dX3_isNumberTo_4 : decode cX3_isNumberTo 4 = .ok (.iconst 2, 1) := by decide +kernel
theorem dX3_isNumberTo_5 : decode cX3_isNumberTo 5 = .ok (.if_icmp .ne 19, 3) := by decide +kernel
theorem dX3_isNumberTo_8 : decode cX3_isNumberTo 8 = .ok (.aload_n 0, 1) := by decide +kernel
theorem dX3_isNumberTo_9 : decode cX3_isNumberTo 9 = .ok (.getfield 28, 3) := by decide +kernel
theorem dX3_isNumberTo_12 : decode cX3_isNumberTo 12 = .ok (.iconst 0, 1) := by decide +kernel
theorem dX3_isNumberTo_13 : decode cX3_isNumberTo 13 = .ok (.iload_n 1, 1) := by decide +kernel
theorem dX3_isNumberTo_14 : decode cX3_isNumberTo 14 = .ok (.invokestatic 125, 3) := by decide +kernel
theorem dX3_isNumberTo_17 : decode cX3_isNumberTo 17 = .ok (.ifCond .eq 7, 3) := by decide +kernel
theorem dX3_isNumberTo_20 : decode cX3_isNumberTo 20 = .ok (.iconst 1, 1) := by decide +kernel
theorem dX3_isNumberTo_21 : decode cX3_isNumberTo 21 = .ok (.goto 4, 3) := by decide +kernel
theorem dX3_isNumberTo_24 : decode cX3_isNumberTo 24 = .ok (.iconst 0, 1) := by decide +kernel
theorem dX3_isNumberTo_25 : decode cX3_isNumberTo 25 = .ok (.ireturn, 1) := by decide +kernel
theorem dX3_isWord_0 : decode cX3_isWord 0 = .ok (.aload_n 0, 1) := by decide +kernel
theorem dX3_isWord_1 : decode cX3_isWord 1 = .ok (.getfield 19, 3) := by decide +kernel
theorem dX3_isWord_4 : decode cX3_isWord 4 = .ok (.iconst 1, 1) := by decide +kernel
theorem dX3_isWord_5 : decode cX3_isWord 5 = .ok (.if_icmp .ne 19, 3) := by decide +kernel
theorem dX3_isWord_8 : decode cX3_isWord 8 = .ok (.aload_n 0, 1) := by decide +kernel
theorem dX3_isWord_9 : decode cX3_isWord 9 = .ok (.getfield 25, 3) := by decide +kernel
theorem dX3_isWord_12 : decode cX3_isWord 12 = .ok (.aload_n 0, 1) := by decide +kernel
theorem dX3_isWord_13 : decode cX3_isWord 13 = .ok (.getfield 22, 3) := by decide +kernel
theorem dX3_isWord_16 : decode cX3_isWord 16 = .ok (.isub, 1) := by decide +kernel
theorem dX3_isWord_17 : decode cX3_isWord 17 = .ok (.aload_n 1, 1) := by decide +kernel
theorem dX3_isWord_18 : decode cX3_isWord 18 = .ok (.invokevirtual 129, 3) := by decide +kernel
theorem dX3_isWord_21 : decode cX3_isWord 21 = .ok (.if_icmp .eq 5, 3) := by decide +kernel
theorem dX3_isWord_24 : decode cX3_isWord 24 = .ok (.iconst 0, 1) := by decide +kernel
theorem dX3_isWord_25 : decode cX3_isWord 25 = .ok (.ireturn, 1) := by decide +kernel
theorem dX3_isWord_26 : decode cX3_isWord 26 = .ok (.iconst 0, 1) := by decide +kernel
theorem dX3_isWord_27 : decode cX3_isWord 27 = .ok (.istore_n 2, 1) := by decide +kernel
theorem dX3_isWord_28 : decode cX3_isWord 28 = .ok (.iload_n 2, 1) := by decide +kernel
theorem dX3_isWord_29 : decode cX3_isWord 29 = .ok (.aload_n 1, 1) := by decide +kernel
theorem dX3_isWord_30 : decode cX3_isWord 30 = .ok (.invokevirtual 129, 3) := by decide +kernel
theorem dX3_isWord_33 : decode cX3_isWord 33 = .ok (.if_icmp .ge 30, 3) := by decide +kernel
theorem dX3_isWord_36 : decode cX3_isWord 36 = .ok (.aload_n 0, 1) := by decide +kernel
theorem dX3_isWord_37 : decode cX3_isWord 37 = .ok (.getfield 9, 3) := by decide +kernel
theorem dX3_isWord_40 : decode cX3_isWord 40 = .ok (.aload_n 0, 1) := by decide +kernel
theorem dX3_isWord_41 : decode cX3_isWord 41 = .ok (.getfield 22, 3) := by decide +kernel
theorem dX3_isWord_44 : decode cX3_isWord 44 = .ok (.iload_n 2, 1) := by decide +kernel
theorem dX3_isWord_45 : decode cX3_isWord 45 = .ok (.iadd, 1) := by decide +kernel
theorem dX3_isWord_46 : decode cX3_isWord 46 = .ok (.iaload, 1) := by decide +kernel
theorem dX3_isWord_47 : decode cX3_isWord 47 = .ok (.aload_n 1, 1) := by decide +kernel
theorem dX3_isWord_48 : decode cX3_isWord 48 = .ok (.iload_n 2, 1) := by decide +kernel
theorem dX3_isWord_49 : decode cX3_isWord 49 = .ok (.invokevirtual 134, 3) := by decide +kernel
theorem dX3_isWord_52 : decode cX3_isWord 52 = .ok (.if_icmp .eq 5, 3) := by decide +kernel
theorem dX3_isWord_55 : decode cX3_isWord 55 = .ok (.iconst 0, 1) := by decide +kernel
theorem dX3_isWord_56 : decode cX3_isWord 56 = .ok (.ireturn, 1) := by decide +kernel
theorem dX3_isWord_57 : decode cX3_isWord 57 = .ok (.iinc 2 1, 3) := by decide +kernel
theorem dX3_isWord_60 : decode cX3_isWord 60 = .ok (.goto (-32), 3) := by decide +kernel
theorem dX3_isWord_63 : decode cX3_isWord 63 = .ok (.iconst 1, 1) := by decide +kernel
theorem dX3_isWord_64 : decode cX3_isWord 64 = .ok (.ireturn, 1) := by decide +kernel
theorem dX3_nextToken_0 : decode cX3_nextToken 0 = .ok (.aload_n 0, 1) := by decide +kernel
theorem dX3_nextToken_1 : decode cX3_nextToken 1 = .ok (.aload_n 0, 1) := by decide +kernel
theorem dX3_nextToken_2 : decode cX3_nextToken 2 = .ok (.getfield 25, 3) := by decide +kernel
theorem dX3_nextToken_5 : decode cX3_nextToken 5 = .ok (.putfield 22, 3) := by decide +kernel
theorem dX3_nextToken_8 : decode cX3_nextToken 8 = .ok (.aload_n 0, 1) := by decide +kernel
theorem dX3_nextToken_9 : decode cX3_nextToken 9 = .ok (.getfield 22, 3) := by decide +kernel
theorem dX3_nextToken_12 : decode cX3_nextToken 12 = .ok (.aload_n 0, 1) := by decide +kernel
theorem dX3_nextToken_13 : decode cX3_nextToken 13 = .ok (.getfield 15, 3) := by decide +kernel
theorem dX3_nextToken_16 : decode cX3_nextToken 16 = .ok (.if_icmp .ge 30, 3) := by decide +kernel
theorem dX3_nextToken_19 : decode cX3_nextToken 19 = .ok (.aload_n 0, 1) := by decide +kernel
theorem dX3_nextToken_20 : decode cX3_nextToken 20 = .ok (.getfield 9, 3) := by decide +kernel
theorem dX3_nextToken_23 : decode cX3_nextToken 23 = .ok (.aload_n 0, 1) := by decide +kernel
theorem dX3_nextToken_24 : decode cX3_nextToken 24 = .ok (.getfield 22, 3) := by decide +kernel
theorem dX3_nextToken_27 : decode cX3_nextToken 27 = .ok (.iaload, 1) := by decide +kernel
theorem dX3_nextToken_28 : decode cX3_nextToken 28 = .ok (.bipush 32, 2) := by decide +kernel
theorem dX3_nextToken_30 : decode cX3_nextToken 30 = .ok (.if_icmp .ne 16, 3) := by decide +kernel
theorem dX3_nextToken_33 : decode cX3_nextToken 33 = .ok (.aload_n 0, 1) := by decide +kernel
theorem dX3_nextToken_34 : decode cX3_nextToken 34 = .ok (.dup, 1) := by decide +kernel
theorem dX3_nextToken_35 : decode cX3_nextToken 35 = .ok (.getfield 22, 3) := by decide +kernel
theorem dX3_nextToken_38 : decode cX3_nextToken 38 = .ok (.iconst 1, 1) := by decide +kernel
theorem dX3_nextToken_39 : decode cX3_nextToken 39 = .ok (.iadd, 1) := by decide +kernel
theorem dX3_nextToken_40 : decode cX3_nextToken 40 = .ok (.putfield 22, 3) := by decide +kernel
theorem dX3_nextToken_43 : decode cX3_nextToken 43 = .ok (.goto (-35), 3) := by decide +kernel
theorem dX3_nextToken_46 : decode cX3_nextToken 46 = .ok (.aload_n 0, 1) := by decide +kernel
theorem dX3_nextToken_47 : decode cX3_nextToken 47 = .ok (.aload_n 0, 1) := by decide +kernel
theorem dX3_nextToken_48 : decode cX3_nextToken 48 = .ok (.getfield 22, 3) := by decide +kernel
theorem dX3_nextToken_51 : decode cX3_nextToken 51 = .ok (.putfield 25, 3) := by decide +kernel
theorem dX3_nextToken_54 : decode cX3_nextToken 54 = .ok (.aload_n 0, 1) := by decide +kernel
theorem dX3_nextToken_55 : decode cX3_nextToken 55 = .ok (.aload_n 0, 1) := by decide +kernel
theorem dX3_nextToken_56 : decode cX3_nextToken 56 = .ok (.aload_n 0, 1) := by decide +kernel
theorem dX3_nextToken_57 : decode cX3_nextToken 57 = .ok (.getfield 22, 3) := by decide +kernel
theorem dX3_nextToken_60 : decode cX3_nextToken 60 = .ok (.invokevirtual 138, 3) := by decide +kernel
theorem dX3_nextToken_63 : decode cX3_nextToken 63 = .ok (.putfield 19, 3) := by decide +kernel
theorem dX3_nextToken_66 : decode cX3_nextToken 66 = .ok (.aload_n 0, 1) := by decide +kernel
theorem dX3_nextToken_67 : decode cX3_nextToken 67 = .ok (.getfield 19, 3) := by decide +kernel
theorem dX3_nextToken_70 : decode cX3_nextToken 70 = .ok (.ifCond .ne 4, 3) := by decide +kernel
theorem dX3_nextToken_73 : decode cX3_nextToken 73 = .ok (.return_, 1) := by decide +kernel
theorem dX3_nextToken_74 : decode cX3_nextToken 74 = .ok (.aload_n 0, 1) := by decide +kernel
theorem dX3_nextToken_75 : decode cX3_nextToken 75 = .ok (.dup, 1) := by decide +kernel
theorem dX3_nextToken_76 : decode cX3_nextToken 76 = .ok (.getfield 25, 3) := by decide +kernel
theorem dX3_nextToken_79 : decode cX3_nextToken 79 = .ok (.iconst 1, 1) := by decide +kernel
theorem dX3_nextToken_80 : decode cX3_nextToken 80 = .ok (.iadd, 1) := by decide +kernel
theorem dX3_nextToken_81 : decode cX3_nextToken 81 = .ok (.putfield 25, 3) := by decide +kernel
theorem dX3_nextToken_84 : decode cX3_nextToken 84 = .ok (.aload_n 0, 1) := by decide +kernel
theorem dX3_nextToken_85 : decode cX3_nextToken 85 = .ok (.getfield 19, 3) := by decide +kernel
theorem dX3_nextToken_88 : decode cX3_nextToken 88 = .ok (.iconst 1, 1) := by decide +kernel
theorem dX3_nextToken_89 : decode cX3_nextToken 89 = .ok (.if_icmp .eq 11, 3) := by decide +kernel
theorem dX3_nextToken_92 : decode cX3_nextToken 92 = .ok (.aload_n 0, 1) := by decide +kernel
theorem dX3_nextToken_93 : decode cX3_nextToken 93 = .ok (.getfield 19, 3) := by decide +kernel
theorem dX3_nextToken_96 : decode cX3_nextToken 96 = .ok (.iconst 2, 1) := by decide +kernel
theorem dX3_nextToken_97 : decode cX3_nextToken 97 = .ok (.if_icmp .ne 42, 3) := by decide +kernel
theorem dX3_nextToken_100 : decode cX3_nextToken 100 = .ok (.aload_n 0, 1) := by decide +kernel
theorem dX3_nextToken_101 : decode cX3_nextToken 101 = .ok (.getfield 25, 3) := by decide +kernel
theorem dX3_nextToken_104 : decode cX3_nextToken 104 = .ok (.aload_n 0, 1) := by decide +kernel
theorem dX3_nextToken_105 : decode cX3_nextToken 105 = .ok (.getfield 15, 3) := by decide +kernel
theorem dX3_nextToken_108 : decode cX3_nextToken 108 = .ok (.if_icmp .ge 31, 3) := by decide +kernel
theorem dX3_nextToken_111 : decode cX3_nextToken 111 = .ok (.aload_n 0, 1) := by decide +kernel
theorem dX3_nextToken_112 : decode cX3_nextToken 112 = .ok (.aload_n 0, 1) := by decide +kernel
theorem dX3_nextToken_113 : decode cX3_nextToken 113 = .ok (.getfield 25, 3) := by decide +kernel
theorem dX3_nextToken_116 : decode cX3_nextToken 116 = .ok (.invokevirtual 138, 3) := by decide +kernel
theorem dX3_nextToken_119 : decode cX3_nextToken 119 = .ok (.aload_n 0, 1) := by decide +kernel
theorem dX3_nextToken_120 : decode cX3_nextToken 120 = .ok (.getfield 19, 3) := by decide +kernel
theorem dX3_nextToken_123 : decode cX3_nextToken 123 = .ok (.if_icmp .ne 16, 3) := by decide +kernel
theorem dX3_nextToken_126 : decode cX3_nextToken 126 = .ok (.aload_n 0, 1) := by decide +kernel
theorem dX3_nextToken_127 : decode cX3_nextToken 127 = .ok (.dup, 1) := by decide +kernel
theorem dX3_nextToken_128 : decode cX3_nextToken 128 = .ok (.getfield 25, 3) := by decide +kernel
theorem dX3_nextToken_131 : decode cX3_nextToken 131 = .ok (.iconst 1, 1) := by decide +kernel
theorem dX3_nextToken_132 : decode cX3_nextToken 132 = .ok (.iadd, 1) := by decide +kernel
theorem dX3_nextToken_133 : decode cX3_nextToken 133 = .ok (.putfield 25, 3) := by decide +kernel
theorem dX3_nextToken_136 : decode cX3_nextToken 136 = .ok (.goto (-52), 3) := by decide +kernel
theorem dX3_nextToken_139 : decode cX3_nextToken 139 = .ok (.aload_n 0, 1) := by decide +kernel
theorem dX3_nextToken_140 : decode cX3_nextToken 140 = .ok (.aload_n 0, 1) := by decide +kernel
theorem dX3_nextToken_141 : decode cX3_nextToken 141 = .ok (.getfield 19, 3) := by decide +kernel
theorem dX3_nextToken_144 : decode cX3_nextToken 144 = .ok (.iconst 2, 1) := by decide +kernel
theorem dX3_nextToken_145 : decode cX3_nextToken 145 = .ok (.if_icmp .ne 10, 3) := by decide +kernel
theorem dX3_nextToken_148 : decode cX3_nextToken 148 = .ok (.aload_n 0, 1) := by decide +kernel
theorem dX3_nextToken_149 : decode cX3_nextToken 149 = .ok (.invokevirtual 142, 3) := by decide +kernel
theorem dX3_nextToken_152 : decode cX3_nextToken 152 = .ok (.goto 4, 3) := by decide +kernel
theorem dX3_nextToken_155 : decode cX3_nextToken 155 = .ok (.iconst 0, 1) := by decide +kernel
theorem dX3_nextToken_156 : decode cX3_nextToken 156 = .ok (.putfield 28, 3) := by decide +kernel
theorem dX3_nextToken_159 : decode cX3_nextToken 159 = .ok (.return_, 1) := by decide +kernel
theorem dX3_sortAt_0 : decode cX3_sortAt 0 = .ok (.iload_n 1, 1) := by decide +kernel
theorem dX3_sortAt_1 : decode cX3_sortAt 1 = .ok (.aload_n 0, 1) := by decide +kernel
theorem dX3_sortAt_2 : decode cX3_sortAt 2 = .ok (.getfield 15, 3) := by decide +kernel
theorem dX3_sortAt_5 : decode cX3_sortAt 5 = .ok (.if_icmp .lt 5, 3) := by decide +kernel
theorem dX3_sortAt_8 : decode cX3_sortAt 8 = .ok (.iconst 0, 1) := by decide +kernel
theorem dX3_sortAt_9 : decode cX3_sortAt 9 = .ok (.ireturn, 1) := by decide +kernel
theorem dX3_sortAt_10 : decode cX3_sortAt 10 = .ok (.aload_n 0, 1) := by decide +kernel
theorem dX3_sortAt_11 : decode cX3_sortAt 11 = .ok (.getfield 9, 3) := by decide +kernel
theorem dX3_sortAt_14 : decode cX3_sortAt 14 = .ok (.iload_n 1, 1) := by decide +kernel
theorem dX3_sortAt_15 : decode cX3_sortAt 15 = .ok (.iaload, 1) := by decide +kernel
theorem dX3_sortAt_16 : decode cX3_sortAt 16 = .ok (.istore_n 2, 1) := by decide +kernel
theorem dX3_sortAt_17 : decode cX3_sortAt 17 = .ok (.iload_n 2, 1) := by decide +kernel
theorem dX3_sortAt_18 : decode cX3_sortAt 18 = .ok (.bipush 97, 2) := by decide +kernel
theorem dX3_sortAt_20 : decode cX3_sortAt 20 = .ok (.if_icmp .lt 11, 3) := by decide +kernel
theorem dX3_sortAt_23 : decode cX3_sortAt 23 = .ok (.iload_n 2, 1) := by decide +kernel
theorem dX3_sortAt_24 : decode cX3_sortAt 24 = .ok (.bipush 122, 2) := by decide +kernel
theorem dX3_sortAt_26 : decode cX3_sortAt 26 = .ok (.if_icmp .gt 5, 3) := by decide +kernel
theorem dX3_sortAt_29 : decode cX3_sortAt 29 = .ok (.iconst 1, 1) := by decide +kernel
theorem dX3_sortAt_30 : decode cX3_sortAt 30 = .ok (.ireturn, 1) := by decide +kernel
theorem dX3_sortAt_31 : decode cX3_sortAt 31 = .ok (.iload_n 2, 1) := by decide +kernel
theorem dX3_sortAt_32 : decode cX3_sortAt 32 = .ok (.bipush 48, 2) := by decide +kernel
theorem dX3_sortAt_34 : decode cX3_sortAt 34 = .ok (.if_icmp .lt 11, 3) := by decide +kernel
theorem dX3_sortAt_37 : decode cX3_sortAt 37 = .ok (.iload_n 2, 1) := by decide +kernel
theorem dX3_sortAt_38 : decode cX3_sortAt 38 = .ok (.bipush 57, 2) := by decide +kernel
theorem dX3_sortAt_40 : decode cX3_sortAt 40 = .ok (.if_icmp .gt 5, 3) := by decide +kernel
theorem dX3_sortAt_43 : decode cX3_sortAt 43 = .ok (.iconst 2, 1) := by decide +kernel
theorem dX3_sortAt_44 : decode cX3_sortAt 44 = .ok (.ireturn, 1) := by decide +kernel
theorem dX3_sortAt_45 : decode cX3_sortAt 45 = .ok (.iload_n 2, 1) := by decide +kernel
theorem dX3_sortAt_46 : decode cX3_sortAt 46 = .ok (.bipush 59, 2) := by decide +kernel
theorem dX3_sortAt_48 : decode cX3_sortAt 48 = .ok (.if_icmp .ne 7, 3) := by decide +kernel
theorem dX3_sortAt_51 : decode cX3_sortAt 51 = .ok (.iconst 3, 1) := by decide +kernel
theorem dX3_sortAt_52 : decode cX3_sortAt 52 = .ok (.goto 4, 3) := by decide +kernel
theorem dX3_sortAt_55 : decode cX3_sortAt 55 = .ok (.iconst 4, 1) := by decide +kernel
theorem dX3_sortAt_56 : decode cX3_sortAt 56 = .ok (.ireturn, 1) := by decide +kernel
theorem dX3_numberAtHand_0 : decode cX3_numberAtHand 0 = .ok (.iconst 0, 1) := by decide +kernel
theorem dX3_numberAtHand_1 : decode cX3_numberAtHand 1 = .ok (.istore_n 1, 1) := by decide +kernel
theorem dX3_numberAtHand_2 : decode cX3_numberAtHand 2 = .ok (.aload_n 0, 1) := by decide +kernel
theorem dX3_numberAtHand_3 : decode cX3_numberAtHand 3 = .ok (.getfield 22, 3) := by decide +kernel
theorem dX3_numberAtHand_6 : decode cX3_numberAtHand 6 = .ok (.istore_n 2, 1) := by decide +kernel
theorem dX3_numberAtHand_7 : decode cX3_numberAtHand 7 = .ok (.iload_n 2, 1) := by decide +kernel
theorem dX3_numberAtHand_8 : decode cX3_numberAtHand 8 = .ok (.aload_n 0, 1) := by decide +kernel
theorem dX3_numberAtHand_9 : decode cX3_numberAtHand 9 = .ok (.getfield 25, 3) := by decide +kernel
theorem dX3_numberAtHand_12 : decode cX3_numberAtHand 12 = .ok (.if_icmp .ge 31, 3) := by decide +kernel
theorem dX3_numberAtHand_15 : decode cX3_numberAtHand 15 = .ok (.iload_n 1, 1) := by decide +kernel
theorem dX3_numberAtHand_16 : decode cX3_numberAtHand 16 = .ok (.sipush 999, 3) := by decide +kernel
theorem dX3_numberAtHand_19 : decode cX3_numberAtHand 19 = .ok (.if_icmp .gt 18, 3) := by decide +kernel
theorem dX3_numberAtHand_22 : decode cX3_numberAtHand 22 = .ok (.iload_n 1, 1) := by decide +kernel
theorem dX3_numberAtHand_23 : decode cX3_numberAtHand 23 = .ok (.bipush 10, 2) := by decide +kernel
theorem dX3_numberAtHand_25 : decode cX3_numberAtHand 25 = .ok (.imul, 1) := by decide +kernel
theorem dX3_numberAtHand_26 : decode cX3_numberAtHand 26 = .ok (.aload_n 0, 1) := by decide +kernel
theorem dX3_numberAtHand_27 : decode cX3_numberAtHand 27 = .ok (.getfield 9, 3) := by decide +kernel
theorem dX3_numberAtHand_30 : decode cX3_numberAtHand 30 = .ok (.iload_n 2, 1) := by decide +kernel
theorem dX3_numberAtHand_31 : decode cX3_numberAtHand 31 = .ok (.iaload, 1) := by decide +kernel
theorem dX3_numberAtHand_32 : decode cX3_numberAtHand 32 = .ok (.iadd, 1) := by decide +kernel
theorem dX3_numberAtHand_33 : decode cX3_numberAtHand 33 = .ok (.bipush 48, 2) := by decide +kernel
theorem dX3_numberAtHand_35 : decode cX3_numberAtHand 35 = .ok (.isub, 1) := by decide +kernel
theorem dX3_numberAtHand_36 : decode cX3_numberAtHand 36 = .ok (.istore_n 1, 1) := by decide +kernel
theorem dX3_numberAtHand_37 : decode cX3_numberAtHand 37 = .ok (.iinc 2 1, 3) := by decide +kernel
theorem dX3_numberAtHand_40 : decode cX3_numberAtHand 40 = .ok (.goto (-33), 3) := by decide +kernel
theorem dX3_numberAtHand_43 : decode cX3_numberAtHand 43 = .ok (.iload_n 1, 1) := by decide +kernel
theorem dX3_numberAtHand_44 : decode cX3_numberAtHand 44 = .ok (.ireturn, 1) := by decide +kernel
theorem dX5_init_0 : decode cX5_init 0 = .ok (.aload_n 0, 1) := by decide +kernel
theorem dX5_init_1 : decode cX5_init 1 = .ok (.invokespecial 1, 3) := by decide +kernel
theorem dX5_init_4 : decode cX5_init 4 = .ok (.aload_n 0, 1) := by decide +kernel
theorem dX5_init_5 : decode cX5_init 5 = .ok (.new 7, 3) := by decide +kernel
theorem dX5_init_8 : decode cX5_init 8 = .ok (.dup, 1) := by decide +kernel
theorem dX5_init_9 : decode cX5_init 9 = .ok (.invokespecial 9, 3) := by decide +kernel
theorem dX5_init_12 : decode cX5_init 12 = .ok (.putfield 10, 3) := by decide +kernel
theorem dX5_init_15 : decode cX5_init 15 = .ok (.aload_n 0, 1) := by decide +kernel
theorem dX5_init_16 : decode cX5_init 16 = .ok (.new 7, 3) := by decide +kernel
theorem dX5_init_19 : decode cX5_init 19 = .ok (.dup, 1) := by decide +kernel
theorem dX5_init_20 : decode cX5_init 20 = .ok (.invokespecial 9, 3) := by decide +kernel
theorem dX5_init_23 : decode cX5_init 23 = .ok (.putfield 16, 3) := by decide +kernel
theorem dX5_init_26 : decode cX5_init 26 = .ok (.aload_n 0, 1) := by decide +kernel
theorem dX5_init_27 : decode cX5_init 27 = .ok (.new 7, 3) := by decide +kernel
theorem dX5_init_30 : decode cX5_init 30 = .ok (.dup, 1) := by decide +kernel
theorem dX5_init_31 : decode cX5_init 31 = .ok (.invokespecial 9, 3) := by decide +kernel
theorem dX5_init_34 : decode cX5_init 34 = .ok (.putfield 19, 3) := by decide +kernel
theorem dX5_init_37 : decode cX5_init 37 = .ok (.aload_n 0, 1) := by decide +kernel
theorem dX5_init_38 : decode cX5_init 38 = .ok (.new 22, 3) := by decide +kernel
theorem dX5_init_41 : decode cX5_init 41 = .ok (.dup, 1) := by decide +kernel
theorem dX5_init_42 : decode cX5_init 42 = .ok (.invokespecial 24, 3) := by decide +kernel
theorem dX5_init_45 : decode cX5_init 45 = .ok (.putfield 25, 3) := by decide +kernel
theorem dX5_init_48 : decode cX5_init 48 = .ok (.aload_n 0, 1) := by decide +kernel
theorem dX5_init_49 : decode cX5_init 49 = .ok (.new 29, 3) := by decide +kernel
theorem dX5_init_52 : decode cX5_init 52 = .ok (.dup, 1) := by decide +kernel
theorem dX5_init_53 : decode cX5_init 53 = .ok (.invokespecial 31, 3) := by decide +kernel
theorem dX5_init_56 : decode cX5_init 56 = .ok (.putfield 32, 3) := by decide +kernel
theorem dX5_init_59 : decode cX5_init 59 = .ok (.aload_n 0, 1) := by decide +kernel
theorem dX5_init_60 : decode cX5_init 60 = .ok (.iconst 4, 1) := by decide +kernel
theorem dX5_init_61 : decode cX5_init 61 = .ok (.anewarray 36, 3) := by decide +kernel
theorem dX5_init_64 : decode cX5_init 64 = .ok (.putfield 38, 3) := by decide +kernel
theorem dX5_init_67 : decode cX5_init 67 = .ok (.aload_n 0, 1) := by decide +kernel
theorem dX5_init_68 : decode cX5_init 68 = .ok (.bipush 7, 2) := by decide +kernel
theorem dX5_init_70 : decode cX5_init 70 = .ok (.newarray .int, 2) := by decide +kernel
theorem dX5_init_72 : decode cX5_init 72 = .ok (.putfield 42, 3) := by decide +kernel
theorem dX5_init_75 : decode cX5_init 75 = .ok (.aload_n 0, 1) := by decide +kernel
theorem dX5_init_76 : decode cX5_init 76 = .ok (.bipush 25, 2) := by decide +kernel
theorem dX5_init_78 : decode cX5_init 78 = .ok (.newarray .int, 2) := by decide +kernel
theorem dX5_init_80 : decode cX5_init 80 = .ok (.putfield 46, 3) := by decide +kernel
theorem dX5_init_83 : decode cX5_init 83 = .ok (.aload_n 0, 1) := by decide +kernel
theorem dX5_init_84 : decode cX5_init 84 = .ok (.iconst 0, 1) := by decide +kernel
theorem dX5_init_85 : decode cX5_init 85 = .ok (.putfield 49, 3) := by decide +kernel
theorem dX5_init_88 : decode cX5_init 88 = .ok (.iconst 0, 1) := by decide +kernel
theorem dX5_init_89 : decode cX5_init 89 = .ok (.istore_n 1, 1) := by decide +kernel
theorem dX5_init_90 : decode cX5_init 90 = .ok (.iload_n 1, 1) := by decide +kernel
theorem dX5_init_91 : decode cX5_init 91 = .ok (.iconst 4, 1) := by decide +kernel
theorem dX5_init_92 : decode cX5_init 92 = .ok (.if_icmp .ge 22, 3) := by decide +kernel
theorem dX5_init_95 : decode cX5_init 95 = .ok (.aload_n 0, 1) := by decide +kernel
theorem dX5_init_96 : decode cX5_init 96 = .ok (.getfield 38, 3) := by decide +kernel
theorem dX5_init_99 : decode cX5_init 99 = .ok (.iload_n 1, 1) := by decide +kernel
theorem dX5_init_100 : decode cX5_init 100 = .ok (.new 36, 3) := by decide +kernel
theorem dX5_init_103 : decode cX5_init 103 = .ok (.dup, 1) := by decide +kernel
theorem dX5_init_104 : decode cX5_init 104 = .ok (.invokespecial 53, 3) := by decide +kernel
theorem dX5_init_107 : decode cX5_init 107 = .ok (.aastore, 1) := by decide +kernel
theorem dX5_init_108 : decode cX5_init 108 = .ok (.iinc 1 1, 3) := by decide +kernel
theorem dX5_init_111 : decode cX5_init 111 = .ok (.goto (-21), 3) := by decide +kernel
theorem dX5_init_114 : decode cX5_init 114 = .ok (.return_, 1) := by decide +kernel
theorem dX5_height_0 : decode cX5_height 0 = .ok (.iload_n 1, 1) := by decide +kernel
theorem dX5_height_1 : decode cX5_height 1 = .ok (.invokestatic 54, 3) := by decide +kernel
theorem dX5_height_4 : decode cX5_height 4 = .ok (.ifCond .eq 10, 3) := by decide +kernel
theorem dX5_height_7 : decode cX5_height 7 = .ok (.iload_n 2, 1) := by decide +kernel
theorem dX5_height_8 : decode cX5_height 8 = .ok (.invokestatic 58, 3) := by decide +kernel
theorem dX5_height_11 : decode cX5_height 11 = .ok (.ifCond .ne 9, 3) := by decide +kernel
theorem dX5_height_14 : decode cX5_height 14 = .ok (.aload_n 0, 1) := by decide +kernel
theorem dX5_height_15 : decode cX5_height 15 = .ok (.iconst 0, 1) := by decide +kernel
theorem dX5_height_16 : decode cX5_height 16 = .ok (.invokevirtual 61, 3) := by decide +kernel
theorem dX5_height_19 : decode cX5_height 19 = .ok (.ireturn, 1) := by decide +kernel
theorem dX5_height_20 : decode cX5_height 20 = .ok (.aload_n 0, 1) := by decide +kernel
theorem dX5_height_21 : decode cX5_height 21 = .ok (.getfield 10, 3) := by decide +kernel
theorem dX5_height_24 : decode cX5_height 24 = .ok (.getfield 65, 3) := by decide +kernel
theorem dX5_height_27 : decode cX5_height 27 = .ok (.iload_n 1, 1) := by decide +kernel
theorem dX5_height_28 : decode cX5_height 28 = .ok (.iaload, 1) := by decide +kernel
theorem dX5_height_29 : decode cX5_height 29 = .ok (.istore_n 3, 1) := by decide +kernel
theorem dX5_height_30 : decode cX5_height 30 = .ok (.aload_n 0, 1) := by decide +kernel
theorem dX5_height_31 : decode cX5_height 31 = .ok (.getfield 10, 3) := by decide +kernel
theorem dX5_height_34 : decode cX5_height 34 = .ok (.getfield 65, 3) := by decide +kernel
theorem dX5_height_37 : decode cX5_height 37 = .ok (.iload_n 1, 1) := by decide +kernel
theorem dX5_height_38 : decode cX5_height 38 = .ok (.iload_n 2, 1) := by decide +kernel
theorem dX5_height_39 : decode cX5_height 39 = .ok (.iastore, 1) := by decide +kernel
theorem dX5_height_40 : decode cX5_height 40 = .ok (.iload_n 3, 1) := by decide +kernel
theorem dX5_height_41 : decode cX5_height 41 = .ok (.ireturn, 1) := by decide +kernel
theorem dX5_spring_0 : decode cX5_spring 0 = .ok (.iload_n 1, 1) := by decide +kernel
theorem dX5_spring_1 : decode cX5_spring 1 = .ok (.invokestatic 54, 3) := by decide +kernel
theorem dX5_spring_4 : decode cX5_spring 4 = .ok (.ifCond .eq 12, 3) := by decide +kernel
theorem dX5_spring_7 : decode cX5_spring 7 = .ok (.iload_n 2, 1) := by decide +kernel
theorem dX5_spring_8 : decode cX5_spring 8 = .ok (.iconst 0, 1) := by decide +kernel
theorem dX5_spring_9 : decode cX5_spring 9 = .ok (.iconst 1, 1) := by decide +kernel
theorem dX5_spring_10 : decode cX5_spring 10 = .ok (.invokestatic 68, 3) := by decide +kernel
theorem dX5_spring_13 : decode cX5_spring 13 = .ok (.ifCond .ne 9, 3) := by decide +kernel
theorem dX5_spring_16 : decode cX5_spring 16 = .ok (.aload_n 0, 1) := by decide +kernel
theorem dX5_spring_17 : decode cX5_spring 17 = .ok (.iconst 0, 1) := by decide +kernel
theorem dX5_spring_18 : decode cX5_spring 18 = .ok (.invokevirtual 61, 3) := by decide +kernel
theorem dX5_spring_21 : decode cX5_spring 21 = .ok (.ireturn, 1) := by decide +kernel
theorem dX5_spring_22 : decode cX5_spring 22 = .ok (.aload_n 0, 1) := by decide +kernel
theorem dX5_spring_23 : decode cX5_spring 23 = .ok (.getfield 10, 3) := by decide +kernel
theorem dX5_spring_26 : decode cX5_spring 26 = .ok (.iload_n 1, 1) := by decide +kernel
theorem dX5_spring_27 : decode cX5_spring 27 = .ok (.invokevirtual 72, 3) := by decide +kernel
theorem dX5_spring_30 : decode cX5_spring 30 = .ok (.istore_n 3, 1) := by decide +kernel
theorem dX5_spring_31 : decode cX5_spring 31 = .ok (.aload_n 0, 1) := by decide +kernel
theorem dX5_spring_32 : decode cX5_spring 32 = .ok (.getfield 10, 3) := by decide +kernel
theorem dX5_spring_35 : decode cX5_spring 35 = .ok (.iload_n 1, 1) := by decide +kernel
theorem dX5_spring_36 : decode cX5_spring 36 = .ok (.iload_n 2, 1) := by decide +kernel
theorem dX5_spring_37 : decode cX5_spring 37 = .ok (.invokevirtual 75, 3) := by decide +kernel
theorem dX5_spring_40 : decode cX5_spring 40 = .ok (.iload_n 3, 1) := by decide +kernel
theorem dX5_spring_41 : decode cX5_spring 41 = .ok (.ireturn, 1) := by decide +kernel
theorem dX5_cell_0 : decode cX5_cell 0 = .ok (.iload_n 1, 1) := by decide +kernel
theorem dX5_cell_1 : decode cX5_cell 1 = .ok (.invokestatic 54, 3) := by decide +kernel
theorem dX5_cell_4 : decode cX5_cell 4 = .ok (.ifCond .ne 9, 3) := by decide +kernel
theorem dX5_cell_7 : decode cX5_cell 7 = .ok (.aload_n 0, 1) := by decide +kernel
theorem dX5_cell_8 : decode cX5_cell 8 = .ok (.iconst 0, 1) := by decide +kernel
theorem dX5_cell_9 : decode cX5_cell 9 = .ok (.invokevirtual 61, 3) := by decide +kernel
theorem dX5_cell_12 : decode cX5_cell 12 = .ok (.ireturn, 1) := by decide +kernel
theorem dX5_cell_13 : decode cX5_cell 13 = .ok (.iload_n 2, 1) := by decide +kernel
theorem dX5_cell_14 : decode cX5_cell 14 = .ok (.tableswitch 67 0 3 #[30, 40, 49, 58], 30) := by decide +kernel
theorem dX5_cell_44 : decode cX5_cell 44 = .ok (.aload_n 0, 1) := by decide +kernel
theorem dX5_cell_45 : decode cX5_cell 45 = .ok (.getfield 10, 3) := by decide +kernel
theorem dX5_cell_48 : decode cX5_cell 48 = .ok (.getfield 65, 3) := by decide +kernel
theorem dX5_cell_51 : decode cX5_cell 51 = .ok (.iload_n 1, 1) := by decide +kernel
theorem dX5_cell_52 : decode cX5_cell 52 = .ok (.iaload, 1) := by decide +kernel
theorem dX5_cell_53 : decode cX5_cell 53 = .ok (.ireturn, 1) := by decide +kernel
theorem dX5_cell_54 : decode cX5_cell 54 = .ok (.aload_n 0, 1) := by decide +kernel
theorem dX5_cell_55 : decode cX5_cell 55 = .ok (.getfield 10, 3) := by decide +kernel
theorem dX5_cell_58 : decode cX5_cell 58 = .ok (.iload_n 1, 1) := by decide +kernel
theorem dX5_cell_59 : decode cX5_cell 59 = .ok (.invokevirtual 72, 3) := by decide +kernel
theorem dX5_cell_62 : decode cX5_cell 62 = .ok (.ireturn, 1) := by decide +kernel
theorem dX5_cell_63 : decode cX5_cell 63 = .ok (.aload_n 0, 1) := by decide +kernel
theorem dX5_cell_64 : decode cX5_cell 64 = .ok (.getfield 10, 3) := by decide +kernel
theorem dX5_cell_67 : decode cX5_cell 67 = .ok (.iload_n 1, 1) := by decide +kernel
theorem dX5_cell_68 : decode cX5_cell 68 = .ok (.invokevirtual 79, 3) := by decide +kernel
theorem dX5_cell_71 : decode cX5_cell 71 = .ok (.ireturn, 1) := by decide +kernel
theorem dX5_cell_72 : decode cX5_cell 72 = .ok (.aload_n 0, 1) := by decide +kernel
theorem dX5_cell_73 : decode cX5_cell 73 = .ok (.getfield 10, 3) := by decide +kernel
theorem dX5_cell_76 : decode cX5_cell 76 = .ok (.iload_n 1, 1) := by decide +kernel
theorem dX5_cell_77 : decode cX5_cell 77 = .ok (.invokevirtual 82, 3) := by decide +kernel
theorem dX5_cell_80 : decode cX5_cell 80 = .ok (.ireturn, 1) := by decide +kernel
theorem dX5_cell_81 : decode cX5_cell 81 = .ok (.aload_n 0, 1) := by decide +kernel
theorem dX5_cell_82 : decode cX5_cell 82 = .ok (.iconst 0, 1) := by decide +kernel
theorem dX5_cell_83 : decode cX5_cell 83 = .ok (.invokevirtual 61, 3) := by decide +kernel
theorem dX5_cell_86 : decode cX5_cell 86 = .ok (.ireturn, 1) := by decide +kernel
theorem dX5_tent_0 : decode cX5_tent 0 = .ok (.iload_n 1, 1) := by decide +kernel
theorem dX5_tent_1 : decode cX5_tent 1 = .ok (.invokestatic 85, 3) := by decide +kernel
theorem dX5_tent_4 : decode cX5_tent 4 = .ok (.ifCond .ne 9, 3) := by decide +kernel
theorem dX5_tent_7 : decode cX5_tent 7 = .ok (.aload_n 0, 1) := by decide +kernel
theorem dX5_tent_8 : decode cX5_tent 8 = .ok (.iconst 0, 1) := by decide +kernel
theorem dX5_tent_9 : decode cX5_tent 9 = .ok (.invokevirtual 61, 3) := by decide +kernel
theorem dX5_tent_12 : decode cX5_tent 12 = .ok (.ireturn, 1) := by decide +kernel
theorem dX5_tent_13 : decode cX5_tent 13 = .ok (.aload_n 0, 1) := by decide +kernel
theorem dX5_tent_14 : decode cX5_tent 14 = .ok (.getfield 10, 3) := by decide +kernel
theorem dX5_tent_17 : decode cX5_tent 17 = .ok (.getfield 88, 3) := by decide +kernel
theorem dX5_tent_20 : decode cX5_tent 20 = .ok (.bipush 6, 2) := by decide +kernel
theorem dX5_tent_22 : decode cX5_tent 22 = .ok (.if_icmp .lt 9, 3) := by decide +kernel
theorem dX5_tent_25 : decode cX5_tent 25 = .ok (.aload_n 0, 1) := by decide +kernel
theorem dX5_tent_26 : decode cX5_tent 26 = .ok (.iconst 1, 1) := by decide +kernel
theorem dX5_tent_27 : decode cX5_tent 27 = .ok (.invokevirtual 61, 3) := by decide +kernel
theorem dX5_tent_30 : decode cX5_tent 30 = .ok (.ireturn, 1) := by decide +kernel
theorem dX5_tent_31 : decode cX5_tent 31 = .ok (.aload_n 0, 1) := by decide +kernel
theorem dX5_tent_32 : decode cX5_tent 32 = .ok (.getfield 10, 3) := by decide +kernel
theorem dX5_tent_35 : decode cX5_tent 35 = .ok (.iload_n 1, 1) := by decide +kernel
theorem dX5_tent_36 : decode cX5_tent 36 = .ok (.invokevirtual 92, 3) := by decide +kernel
theorem dX5_tent_39 : decode cX5_tent 39 = .ok (.aload_n 0, 1) := by decide +kernel
theorem dX5_tent_40 : decode cX5_tent 40 = .ok (.getfield 10, 3) := by decide +kernel
theorem dX5_tent_43 : decode cX5_tent 43 = .ok (.getfield 88, 3) := by decide +kernel
theorem dX5_tent_46 : decode cX5_tent 46 = .ok (.iconst 1, 1) := by decide +kernel
theorem dX5_tent_47 : decode cX5_tent 47 = .ok (.isub, 1) := by decide +kernel
theorem dX5_tent_48 : decode cX5_tent 48 = .ok (.ireturn, 1) := by decide +kernel
theorem dX5_of_0 : decode cX5_of 0 = .ok (.aload_n 0, 1) := by decide +kernel
theorem dX5_of_1 : decode cX5_of 1 = .ok (.iload_n 1, 1) := by decide +kernel
theorem dX5_of_2 : decode cX5_of 2 = .ok (.invokevirtual 96, 3) := by decide +kernel
theorem dX5_of_5 : decode cX5_of 5 = .ok (.ifCond .eq 13, 3) := by decide +kernel
theorem dX5_of_8 : decode cX5_of 8 = .ok (.iload_n 2, 1) := by decide +kernel
theorem dX5_of_9 : decode cX5_of 9 = .ok (.iconst 0, 1) := by decide +kernel
theorem dX5_of_10 : decode cX5_of 10 = .ok (.bipush 7, 2) := by decide +kernel
theorem dX5_of_12 : decode cX5_of 12 = .ok (.invokestatic 68, 3) := by decide +kernel
theorem dX5_of_15 : decode cX5_of 15 = .ok (.ifCond .ne 9, 3) := by decide +kernel
theorem dX5_of_18 : decode cX5_of 18 = .ok (.aload_n 0, 1) := by decide +kernel
theorem dX5_of_19 : decode cX5_of 19 = .ok (.iconst 0, 1) := by decide +kernel
theorem dX5_of_20 : decode cX5_of 20 = .ok (.invokevirtual 61, 3) := by decide +kernel
theorem dX5_of_23 : decode cX5_of 23 = .ok (.ireturn, 1) := by decide +kernel
theorem dX5_of_24 : decode cX5_of 24 = .ok (.aload_n 0, 1) := by decide +kernel
theorem dX5_of_25 : decode cX5_of 25 = .ok (.getfield 10, 3) := by decide +kernel
theorem dX5_of_28 : decode cX5_of 28 = .ok (.getfield 99, 3) := by decide +kernel
theorem dX5_of_31 : decode cX5_of 31 = .ok (.iload_n 1, 1) := by decide +kernel
theorem dX5_of_32 : decode cX5_of 32 = .ok (.aaload, 1) := by decide +kernel
theorem dX5_of_33 : decode cX5_of 33 = .ok (.iload_n 2, 1) := by decide +kernel
theorem dX5_of_34 : decode cX5_of 34 = .ok (.invokevirtual 103, 3) := by decide +kernel
theorem dX5_of_37 : decode cX5_of 37 = .ok (.ireturn, 1) := by decide +kernel
theorem dX5_change_0 : decode cX5_change 0 = .ok (.aload_n 0, 1) := by decide +kernel
theorem dX5_change_1 : decode cX5_change 1 = .ok (.iload_n 1, 1) := by decide +kernel
theorem dX5_change_2 : decode cX5_change 2 = .ok (.invokevirtual 96, 3) := by decide +kernel
theorem dX5_change_5 : decode cX5_change 5 = .ok (.ifCond .eq 11, 3) := by decide +kernel
theorem dX5_change_8 : decode cX5_change 8 = .ok (.iload_n 2, 1) := by decide +kernel
theorem dX5_change_9 : decode cX5_change 9 = .ok (.iload_n 3, 1) := by decide +kernel
theorem dX5_change_10 : decode cX5_change 10 = .ok (.invokestatic 108, 3) := by decide +kernel
theorem dX5_change_13 : decode cX5_change 13 = .ok (.ifCond .ne 9, 3) := by decide +kernel
theorem dX5_change_16 : decode cX5_change 16 = .ok (.aload_n 0, 1) := by decide +kernel
theorem dX5_change_17 : decode cX5_change 17 = .ok (.iconst 0, 1) := by decide +kernel
theorem dX5_change_18 : decode cX5_change 18 = .ok (.invokevirtual 61, 3) := by decide +kernel
theorem dX5_change_21 : decode cX5_change 21 = .ok (.ireturn, 1) := by decide +kernel
theorem dX5_change_22 : decode cX5_change 22 = .ok (.aload_n 0, 1) := by decide +kernel
theorem dX5_change_23 : decode cX5_change 23 = .ok (.getfield 10, 3) := by decide +kernel
theorem dX5_change_26 : decode cX5_change 26 = .ok (.getfield 99, 3) := by decide +kernel
theorem dX5_change_29 : decode cX5_change 29 = .ok (.iload_n 1, 1) := by decide +kernel
theorem dX5_change_30 : decode cX5_change 30 = .ok (.aaload, 1) := by decide +kernel
theorem dX5_change_31 : decode cX5_change 31 = .ok (.iload_n 2, 1) := by decide +kernel
theorem dX5_change_32 : decode cX5_change 32 = .ok (.invokevirtual 103, 3) := by decide +kernel
theorem dX5_change_35 : decode cX5_change 35 = .ok (.istore 4, 2) := by decide +kernel
theorem dX5_change_37 : decode cX5_change 37 = .ok (.aload_n 0, 1) := by decide +kernel
theorem dX5_change_38 : decode cX5_change 38 = .ok (.getfield 10, 3) := by decide +kernel
theorem dX5_change_41 : decode cX5_change 41 = .ok (.getfield 99, 3) := by decide +kernel
theorem dX5_change_44 : decode cX5_change 44 = .ok (.iload_n 1, 1) := by decide +kernel
theorem dX5_change_45 : decode cX5_change 45 = .ok (.aaload, 1) := by decide +kernel
theorem dX5_change_46 : decode cX5_change 46 = .ok (.iload_n 2, 1) := by decide +kernel
theorem dX5_change_47 : decode cX5_change 47 = .ok (.iload_n 3, 1) := by decide +kernel
theorem dX5_change_48 : decode cX5_change 48 = .ok (.invokevirtual 112, 3) := by decide +kernel
theorem dX5_change_51 : decode cX5_change 51 = .ok (.iload 4, 2) := by decide +kernel
theorem dX5_change_53 : decode cX5_change 53 = .ok (.ireturn, 1) := by decide +kernel
theorem dX5_beat_0 : decode cX5_beat 0 = .ok (.aload_n 0, 1) := by decide +kernel
theorem dX5_beat_1 : decode cX5_beat 1 = .ok (.iload_n 1, 1) := by decide +kernel
theorem dX5_beat_2 : decode cX5_beat 2 = .ok (.invokevirtual 96, 3) := by decide +kernel
theorem dX5_beat_5 : decode cX5_beat 5 = .ok (.ifCond .ne 9, 3) := by decide +kernel
theorem dX5_beat_8 : decode cX5_beat 8 = .ok (.aload_n 0, 1) := by decide +kernel
theorem dX5_beat_9 : decode cX5_beat 9 = .ok (.iconst 0, 1) := by decide +kernel
theorem dX5_beat_10 : decode cX5_beat 10 = .ok (.invokevirtual 61, 3) := by decide +kernel
theorem dX5_beat_13 : decode cX5_beat 13 = .ok (.ireturn, 1) := by decide +kernel
theorem dX5_beat_14 : decode cX5_beat 14 = .ok (.aload_n 0, 1) := by decide +kernel
theorem dX5_beat_15 : decode cX5_beat 15 = .ok (.getfield 10, 3) := by decide +kernel
theorem dX5_beat_18 : decode cX5_beat 18 = .ok (.getfield 99, 3) := by decide +kernel
theorem dX5_beat_21 : decode cX5_beat 21 = .ok (.iload_n 1, 1) := by decide +kernel
theorem dX5_beat_22 : decode cX5_beat 22 = .ok (.aaload, 1) := by decide +kernel
theorem dX5_beat_23 : decode cX5_beat 23 = .ok (.invokevirtual 115, 3) := by decide +kernel
theorem dX5_beat_26 : decode cX5_beat 26 = .ok (.ireturn, 1) := by decide +kernel
theorem dX5_go_0 : decode cX5_go 0 = .ok (.iload_n 1, 1) := by decide +kernel
theorem dX5_go_1 : decode cX5_go 1 = .ok (.iconst 1, 1) := by decide +kernel
theorem dX5_go_2 : decode cX5_go 2 = .ok (.bipush 60, 2) := by decide +kernel
theorem dX5_go_4 : decode cX5_go 4 = .ok (.invokestatic 68, 3) := by decide +kernel
theorem dX5_go_7 : decode cX5_go 7 = .ok (.ifCond .ne 9, 3) := by decide +kernel
theorem dX5_go_10 : decode cX5_go 10 = .ok (.aload_n 0, 1) := by decide +kernel
theorem dX5_go_11 : decode cX5_go 11 = .ok (.iconst 0, 1) := by decide +kernel
theorem dX5_go_12 : decode cX5_go 12 = .ok (.invokevirtual 61, 3) := by decide +kernel
theorem dX5_go_15 : decode cX5_go 15 = .ok (.ireturn, 1) := by decide +kernel
theorem dX5_go_16 : decode cX5_go 16 = .ok (.aload_n 0, 1) := by decide +kernel
theorem dX5_go_17 : decode cX5_go 17 = .ok (.getfield 10, 3) := by decide +kernel
theorem dX5_go_20 : decode cX5_go 20 = .ok (.getfield 119, 3) := by decide +kernel
theorem dX5_go_23 : decode cX5_go 23 = .ok (.iload_n 1, 1) := by decide +kernel
theorem dX5_go_24 : decode cX5_go 24 = .ok (.iadd, 1) := by decide +kernel
theorem dX5_go_25 : decode cX5_go 25 = .ok (.ldc 122, 2) := by decide +kernel
theorem dX5_go_27 : decode cX5_go 27 = .ok (.if_icmp .le 9, 3) := by decide +kernel
theorem dX5_go_30 : decode cX5_go 30 = .ok (.aload_n 0, 1) := by decide +kernel
theorem dX5_go_31 : decode cX5_go 31 = .ok (.iconst 4, 1) := by decide +kernel
theorem dX5_go_32 : decode cX5_go 32 = .ok (.invokevirtual 61, 3) := by decide +kernel
theorem dX5_go_35 : decode cX5_go 35 = .ok (.ireturn, 1) := by decide +kernel
theorem dX5_go_36 : decode cX5_go 36 = .ok (.aload_n 0, 1) := by decide +kernel
theorem dX5_go_37 : decode cX5_go 37 = .ok (.getfield 10, 3) := by decide +kernel
theorem dX5_go_40 : decode cX5_go 40 = .ok (.iload_n 1, 1) := by decide +kernel
theorem dX5_go_41 : decode cX5_go 41 = .ok (.invokevirtual 123, 3) := by decide +kernel
theorem dX5_go_44 : decode cX5_go 44 = .ok (.aload_n 0, 1) := by decide +kernel
theorem dX5_go_45 : decode cX5_go 45 = .ok (.getfield 10, 3) := by decide +kernel
theorem dX5_go_48 : decode cX5_go 48 = .ok (.invokevirtual 126, 3) := by decide +kernel
theorem dX5_go_51 : decode cX5_go 51 = .ok (.ireturn, 1) := by decide +kernel
theorem dX5_now_0 : decode cX5_now 0 = .ok (.iload_n 1, 1) := by decide +kernel
theorem dX5_now_1 : decode cX5_now 1 = .ok (.tableswitch 87 0 5 #[39, 47, 55, 63, 71, 79], 39) := by decide +kernel
theorem dX5_now_40 : decode cX5_now 40 = .ok (.aload_n 0, 1) := by decide +kernel
theorem dX5_now_41 : decode cX5_now 41 = .ok (.getfield 10, 3) := by decide +kernel
theorem dX5_now_44 : decode cX5_now 44 = .ok (.getfield 119, 3) := by decide +kernel
theorem dX5_now_47 : decode cX5_now 47 = .ok (.ireturn, 1) := by decide +kernel
theorem dX5_now_48 : decode cX5_now 48 = .ok (.aload_n 0, 1) := by decide +kernel
theorem dX5_now_49 : decode cX5_now 49 = .ok (.getfield 10, 3) := by decide +kernel
theorem dX5_now_52 : decode cX5_now 52 = .ok (.invokevirtual 126, 3) := by decide +kernel
theorem dX5_now_55 : decode cX5_now 55 = .ok (.ireturn, 1) := by decide +kernel
theorem dX5_now_56 : decode cX5_now 56 = .ok (.aload_n 0, 1) := by decide +kernel
theorem dX5_now_57 : decode cX5_now 57 = .ok (.getfield 10, 3) := by decide +kernel
theorem dX5_now_60 : decode cX5_now 60 = .ok (.getfield 129, 3) := by decide +kernel
theorem dX5_now_63 : decode cX5_now 63 = .ok (.ireturn, 1) := by decide +kernel
theorem dX5_now_64 : decode cX5_now 64 = .ok (.aload_n 0, 1) := by decide +kernel
theorem dX5_now_65 : decode cX5_now 65 = .ok (.getfield 10, 3) := by decide +kernel
theorem dX5_now_68 : decode cX5_now 68 = .ok (.invokevirtual 132, 3) := by decide +kernel
theorem dX5_now_71 : decode cX5_now 71 = .ok (.ireturn, 1) := by decide +kernel
theorem dX5_now_72 : decode cX5_now 72 = .ok (.aload_n 0, 1) := by decide +kernel
theorem dX5_now_73 : decode cX5_now 73 = .ok (.getfield 10, 3) := by decide +kernel
theorem dX5_now_76 : decode cX5_now 76 = .ok (.invokevirtual 135, 3) := by decide +kernel
theorem dX5_now_79 : decode cX5_now 79 = .ok (.ireturn, 1) := by decide +kernel
theorem dX5_now_80 : decode cX5_now 80 = .ok (.aload_n 0, 1) := by decide +kernel
theorem dX5_now_81 : decode cX5_now 81 = .ok (.getfield 10, 3) := by decide +kernel
theorem dX5_now_84 : decode cX5_now 84 = .ok (.invokevirtual 138, 3) := by decide +kernel
theorem dX5_now_87 : decode cX5_now 87 = .ok (.ireturn, 1) := by decide +kernel
theorem dX5_now_88 : decode cX5_now 88 = .ok (.aload_n 0, 1) := by decide +kernel
theorem dX5_now_89 : decode cX5_now 89 = .ok (.iconst 0, 1) := by decide +kernel
theorem dX5_now_90 : decode cX5_now 90 = .ok (.invokevirtual 61, 3) := by decide +kernel
theorem dX5_now_93 : decode cX5_now 93 = .ok (.ireturn, 1) := by decide +kernel
theorem dX5_way_0 : decode cX5_way 0 = .ok (.iload_n 1, 1) := by decide +kernel
theorem dX5_way_1 : decode cX5_way 1 = .ok (.invokestatic 54, 3) := by decide +kernel
theorem dX5_way_4 : decode cX5_way 4 = .ok (.ifCond .eq 17, 3) := by decide +kernel
theorem dX5_way_7 : decode cX5_way 7 = .ok (.iload_n 2, 1) := by decide +kernel
theorem dX5_way_8 : decode cX5_way 8 = .ok (.invokestatic 54, 3) := by decide +kernel
theorem dX5_way_11 : decode cX5_way 11 = .ok (.ifCond .eq 10, 3) := by decide +kernel
theorem dX5_way_14 : decode cX5_way 14 = .ok (.iload_n 3, 1) := by decide +kernel
theorem dX5_way_15 : decode cX5_way 15 = .ok (.invokestatic 58, 3) := by decide +kernel
theorem dX5_way_18 : decode cX5_way 18 = .ok (.ifCond .ne 9, 3) := by decide +kernel
theorem dX5_way_21 : decode cX5_way 21 = .ok (.aload_n 0, 1) := by decide +kernel
theorem dX5_way_22 : decode cX5_way 22 = .ok (.iconst 0, 1) := by decide +kernel
theorem dX5_way_23 : decode cX5_way 23 = .ok (.invokevirtual 61, 3) := by decide +kernel
theorem dX5_way_26 : decode cX5_way 26 = .ok (.ireturn, 1) := by decide +kernel
theorem dX5_way_27 : decode cX5_way 27 = .ok (.aload_n 0, 1) := by decide +kernel
theorem dX5_way_28 : decode cX5_way 28 = .ok (.getfield 25, 3) := by decide +kernel
theorem dX5_way_31 : decode cX5_way 31 = .ok (.aload_n 0, 1) := by decide +kernel
theorem dX5_way_32 : decode cX5_way 32 = .ok (.getfield 10, 3) := by decide +kernel
theorem dX5_way_35 : decode cX5_way 35 = .ok (.iload_n 1, 1) := by decide +kernel
theorem dX5_way_36 : decode cX5_way 36 = .ok (.iload_n 2, 1) := by decide +kernel
theorem dX5_way_37 : decode cX5_way 37 = .ok (.iload_n 3, 1) := by decide +kernel
theorem dX5_way_38 : decode cX5_way 38 = .ok (.invokevirtual 141, 3) := by decide +kernel
theorem dX5_way_41 : decode cX5_way 41 = .ok (.istore 4, 2) := by decide +kernel
theorem dX5_way_43 : decode cX5_way 43 = .ok (.iload 4, 2) := by decide +kernel
theorem dX5_way_45 : decode cX5_way 45 = .ok (.iconst (-1), 1) := by decide +kernel
theorem dX5_way_46 : decode cX5_way 46 = .ok (.if_icmp .ne 11, 3) := by decide +kernel
theorem dX5_way_49 : decode cX5_way 49 = .ok (.aload_n 0, 1) := by decide +kernel
theorem dX5_way_50 : decode cX5_way 50 = .ok (.iconst 3, 1) := by decide +kernel
theorem dX5_way_51 : decode cX5_way 51 = .ok (.invokevirtual 61, 3) := by decide +kernel
theorem dX5_way_54 : decode cX5_way 54 = .ok (.goto 5, 3) := by decide +kernel
theorem dX5_way_57 : decode cX5_way 57 = .ok (.iload 4, 2) := by decide +kernel
theorem dX5_way_59 : decode cX5_way 59 = .ok (.ireturn, 1) := by decide +kernel
theorem dX5_climb_0 : decode cX5_climb 0 = .ok (.iload_n 1, 1) := by decide +kernel
theorem dX5_climb_1 : decode cX5_climb 1 = .ok (.invokestatic 54, 3) := by decide +kernel
theorem dX5_climb_4 : decode cX5_climb 4 = .ok (.ifCond .eq 10, 3) := by decide +kernel
theorem dX5_climb_7 : decode cX5_climb 7 = .ok (.iload_n 2, 1) := by decide +kernel
theorem dX5_climb_8 : decode cX5_climb 8 = .ok (.invokestatic 54, 3) := by decide +kernel
theorem dX5_climb_11 : decode cX5_climb 11 = .ok (.ifCond .ne 9, 3) := by decide +kernel
theorem dX5_climb_14 : decode cX5_climb 14 = .ok (.aload_n 0, 1) := by decide +kernel
theorem dX5_climb_15 : decode cX5_climb 15 = .ok (.iconst 0, 1) := by decide +kernel
theorem dX5_climb_16 : decode cX5_climb 16 = .ok (.invokevirtual 61, 3) := by decide +kernel
theorem dX5_climb_19 : decode cX5_climb 19 = .ok (.ireturn, 1) := by decide +kernel
theorem dX5_climb_20 : decode cX5_climb 20 = .ok (.aload_n 0, 1) := by decide +kernel
theorem dX5_climb_21 : decode cX5_climb 21 = .ok (.getfield 25, 3) := by decide +kernel
theorem dX5_climb_24 : decode cX5_climb 24 = .ok (.aload_n 0, 1) := by decide +kernel
theorem dX5_climb_25 : decode cX5_climb 25 = .ok (.getfield 10, 3) := by decide +kernel
theorem dX5_climb_28 : decode cX5_climb 28 = .ok (.iload_n 1, 1) := by decide +kernel
theorem dX5_climb_29 : decode cX5_climb 29 = .ok (.iload_n 2, 1) := by decide +kernel
theorem dX5_climb_30 : decode cX5_climb 30 = .ok (.invokevirtual 145, 3) := by decide +kernel
theorem dX5_climb_33 : decode cX5_climb 33 = .ok (.ireturn, 1) := by decide +kernel
theorem dX5_reach_0 : decode cX5_reach 0 = .ok (.iload_n 1, 1) := by decide +kernel
theorem dX5_reach_1 : decode cX5_reach 1 = .ok (.invokestatic 54, 3) := by decide +kernel
theorem dX5_reach_4 : decode cX5_reach 4 = .ok (.ifCond .eq 10, 3) := by decide +kernel
theorem dX5_reach_7 : decode cX5_reach 7 = .ok (.iload_n 2, 1) := by decide +kernel
theorem dX5_reach_8 : decode cX5_reach 8 = .ok (.invokestatic 58, 3) := by decide +kernel
theorem dX5_reach_11 : decode cX5_reach 11 = .ok (.ifCond .ne 9, 3) := by decide +kernel
theorem dX5_reach_14 : decode cX5_reach 14 = .ok (.aload_n 0, 1) := by decide +kernel
theorem dX5_reach_15 : decode cX5_reach 15 = .ok (.iconst 0, 1) := by decide +kernel
theorem dX5_reach_16 : decode cX5_reach 16 = .ok (.invokevirtual 61, 3) := by decide +kernel
theorem dX5_reach_19 : decode cX5_reach 19 = .ok (.ireturn, 1) := by decide +kernel
theorem dX5_reach_20 : decode cX5_reach 20 = .ok (.aload_n 0, 1) := by decide +kernel
theorem dX5_reach_21 : decode cX5_reach 21 = .ok (.getfield 25, 3) := by decide +kernel
theorem dX5_reach_24 : decode cX5_reach 24 = .ok (.aload_n 0, 1) := by decide +kernel
theorem dX5_reach_25 : decode cX5_reach 25 = .ok (.getfield 10, 3) := by decide +kernel
theorem dX5_reach_28 : decode cX5_reach 28 = .ok (.iload_n 1, 1) := by decide +kernel
theorem dX5_reach_29 : decode cX5_reach 29 = .ok (.iload_n 2, 1) := by decide +kernel
theorem dX5_reach_30 : decode cX5_reach 30 = .ok (.invokevirtual 149, 3) := by decide +kernel
theorem dX5_reach_33 : decode cX5_reach 33 = .ok (.aload_n 0, 1) := by decide +kernel
theorem dX5_reach_34 : decode cX5_reach 34 = .ok (.getfield 25, 3) := by decide +kernel
theorem dX5_reach_37 : decode cX5_reach 37 = .ok (.invokevirtual 153, 3) := by decide +kernel
theorem dX5_reach_40 : decode cX5_reach 40 = .ok (.ireturn, 1) := by decide +kernel
theorem dX5_drink_0 : decode cX5_drink 0 = .ok (.iload_n 1, 1) := by decide +kernel
theorem dX5_drink_1 : decode cX5_drink 1 = .ok (.invokestatic 54, 3) := by decide +kernel
theorem dX5_drink_4 : decode cX5_drink 4 = .ok (.ifCond .eq 10, 3) := by decide +kernel
theorem dX5_drink_7 : decode cX5_drink 7 = .ok (.iload_n 2, 1) := by decide +kernel
theorem dX5_drink_8 : decode cX5_drink 8 = .ok (.invokestatic 58, 3) := by decide +kernel
theorem dX5_drink_11 : decode cX5_drink 11 = .ok (.ifCond .ne 9, 3) := by decide +kernel
theorem dX5_drink_14 : decode cX5_drink 14 = .ok (.aload_n 0, 1) := by decide +kernel
theorem dX5_drink_15 : decode cX5_drink 15 = .ok (.iconst 0, 1) := by decide +kernel
theorem dX5_drink_16 : decode cX5_drink 16 = .ok (.invokevirtual 61, 3) := by decide +kernel
theorem dX5_drink_19 : decode cX5_drink 19 = .ok (.ireturn, 1) := by decide +kernel
theorem dX5_drink_20 : decode cX5_drink 20 = .ok (.aload_n 0, 1) := by decide +kernel
theorem dX5_drink_21 : decode cX5_drink 21 = .ok (.getfield 25, 3) := by decide +kernel
theorem dX5_drink_24 : decode cX5_drink 24 = .ok (.aload_n 0, 1) := by decide +kernel
theorem dX5_drink_25 : decode cX5_drink 25 = .ok (.getfield 10, 3) := by decide +kernel
theorem dX5_drink_28 : decode cX5_drink 28 = .ok (.iload_n 1, 1) := by decide +kernel
theorem dX5_drink_29 : decode cX5_drink 29 = .ok (.iload_n 2, 1) := by decide +kernel
theorem dX5_drink_30 : decode cX5_drink 30 = .ok (.invokevirtual 149, 3) := by decide +kernel
theorem dX5_drink_33 : decode cX5_drink 33 = .ok (.aload_n 0, 1) := by decide +kernel
theorem dX5_drink_34 : decode cX5_drink 34 = .ok (.getfield 25, 3) := by decide +kernel
theorem dX5_drink_37 : decode cX5_drink 37 = .ok (.aload_n 0, 1) := by decide +kernel
theorem dX5_drink_38 : decode cX5_drink 38 = .ok (.getfield 10, 3) := by decide +kernel
theorem dX5_drink_41 : decode cX5_drink 41 = .ok (.getfield 129, 3) := by decide +kernel
theorem dX5_drink_44 : decode cX5_drink 44 = .ok (.invokevirtual 156, 3) := by decide +kernel
theorem dX5_drink_47 : decode cX5_drink 47 = .ok (.istore_n 3, 1) := by decide +kernel
theorem dX5_drink_48 : decode cX5_drink 48 = .ok (.iload_n 3, 1) := by decide +kernel
theorem dX5_drink_49 : decode cX5_drink 49 = .ok (.iconst (-1), 1) := by decide +kernel
theorem dX5_drink_50 : decode cX5_drink 50 = .ok (.if_icmp .ne 11, 3) := by decide +kernel
theorem dX5_drink_53 : decode cX5_drink 53 = .ok (.aload_n 0, 1) := by decide +kernel
