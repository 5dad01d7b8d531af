theorem dX5_drink_54 : decode cX5_drink 54 = .ok (.iconst 3, 1) := by decide +kernel
theorem dX5_drink_55 : decode cX5_drink 55 = .ok (.invokevirtual 61, 3) := by decide +kernel
theorem dX5_drink_58 : decode cX5_drink 58 = .ok (.goto 4, 3) := by decide +kernel
theorem dX5_drink_61 : decode cX5_drink 61 = .ok (.iload_n 3, 1) := by decide +kernel
theorem dX5_drink_62 : decode cX5_drink 62 = .ok (.ireturn, 1) := by decide +kernel
theorem dX5_ahead_0 : decode cX5_ahead 0 = .ok (.iload_n 1, 1) := by decide +kernel
theorem dX5_ahead_1 : decode cX5_ahead 1 = .ok (.invokestatic 54, 3) := by decide +kernel
theorem dX5_ahead_4 : decode cX5_ahead 4 = .ok (.ifCond .eq 13, 3) := by decide +kernel
theorem dX5_ahead_7 : decode cX5_ahead 7 = .ok (.iload_n 2, 1) := by decide +kernel
theorem dX5_ahead_8 : decode cX5_ahead 8 = .ok (.iconst 0, 1) := by decide +kernel
theorem dX5_ahead_9 : decode cX5_ahead 9 = .ok (.bipush 100, 2) := by decide +kernel
theorem dX5_ahead_11 : decode cX5_ahead 11 = .ok (.invokestatic 68, 3) := by decide +kernel
theorem dX5_ahead_14 : decode cX5_ahead 14 = .ok (.ifCond .ne 9, 3) := by decide +kernel
theorem dX5_ahead_17 : decode cX5_ahead 17 = .ok (.aload_n 0, 1) := by decide +kernel
theorem dX5_ahead_18 : decode cX5_ahead 18 = .ok (.iconst 0, 1) := by decide +kernel
theorem dX5_ahead_19 : decode cX5_ahead 19 = .ok (.invokevirtual 61, 3) := by decide +kernel
theorem dX5_ahead_22 : decode cX5_ahead 22 = .ok (.ireturn, 1) := by decide +kernel
theorem dX5_ahead_23 : decode cX5_ahead 23 = .ok (.aload_n 0, 1) := by decide +kernel
theorem dX5_ahead_24 : decode cX5_ahead 24 = .ok (.getfield 19, 3) := by decide +kernel
theorem dX5_ahead_27 : decode cX5_ahead 27 = .ok (.aload_n 0, 1) := by decide +kernel
theorem dX5_ahead_28 : decode cX5_ahead 28 = .ok (.getfield 10, 3) := by decide +kernel
theorem dX5_ahead_31 : decode cX5_ahead 31 = .ok (.invokevirtual 159, 3) := by decide +kernel
theorem dX5_ahead_34 : decode cX5_ahead 34 = .ok (.aload_n 0, 1) := by decide +kernel
theorem dX5_ahead_35 : decode cX5_ahead 35 = .ok (.getfield 19, 3) := by decide +kernel
theorem dX5_ahead_38 : decode cX5_ahead 38 = .ok (.iload_n 2, 1) := by decide +kernel
theorem dX5_ahead_39 : decode cX5_ahead 39 = .ok (.invokevirtual 123, 3) := by decide +kernel
theorem dX5_ahead_42 : decode cX5_ahead 42 = .ok (.aload_n 0, 1) := by decide +kernel
theorem dX5_ahead_43 : decode cX5_ahead 43 = .ok (.getfield 19, 3) := by decide +kernel
theorem dX5_ahead_46 : decode cX5_ahead 46 = .ok (.getfield 65, 3) := by decide +kernel
theorem dX5_ahead_49 : decode cX5_ahead 49 = .ok (.iload_n 1, 1) := by decide +kernel
theorem dX5_ahead_50 : decode cX5_ahead 50 = .ok (.iaload, 1) := by decide +kernel
theorem dX5_ahead_51 : decode cX5_ahead 51 = .ok (.ireturn, 1) := by decide +kernel
theorem dX5_felt_0 : decode cX5_felt 0 = .ok (.aload_n 0, 1) := by decide +kernel
theorem dX5_felt_1 : decode cX5_felt 1 = .ok (.iload_n 1, 1) := by decide +kernel
theorem dX5_felt_2 : decode cX5_felt 2 = .ok (.invokevirtual 96, 3) := by decide +kernel
theorem dX5_felt_5 : decode cX5_felt 5 = .ok (.ifCond .eq 22, 3) := by decide +kernel
theorem dX5_felt_8 : decode cX5_felt 8 = .ok (.iload_n 2, 1) := by decide +kernel
theorem dX5_felt_9 : decode cX5_felt 9 = .ok (.iconst 0, 1) := by decide +kernel
theorem dX5_felt_10 : decode cX5_felt 10 = .ok (.iconst 3, 1) := by decide +kernel
theorem dX5_felt_11 : decode cX5_felt 11 = .ok (.invokestatic 68, 3) := by decide +kernel
theorem dX5_felt_14 : decode cX5_felt 14 = .ok (.ifCond .eq 13, 3) := by decide +kernel
theorem dX5_felt_17 : decode cX5_felt 17 = .ok (.iload_n 3, 1) := by decide +kernel
theorem dX5_felt_18 : decode cX5_felt 18 = .ok (.iconst 0, 1) := by decide +kernel
theorem dX5_felt_19 : decode cX5_felt 19 = .ok (.bipush 100, 2) := by decide +kernel
theorem dX5_felt_21 : decode cX5_felt 21 = .ok (.invokestatic 68, 3) := by decide +kernel
theorem dX5_felt_24 : decode cX5_felt 24 = .ok (.ifCond .ne 9, 3) := by decide +kernel
theorem dX5_felt_27 : decode cX5_felt 27 = .ok (.aload_n 0, 1) := by decide +kernel
theorem dX5_felt_28 : decode cX5_felt 28 = .ok (.iconst 0, 1) := by decide +kernel
theorem dX5_felt_29 : decode cX5_felt 29 = .ok (.invokevirtual 61, 3) := by decide +kernel
theorem dX5_felt_32 : decode cX5_felt 32 = .ok (.ireturn, 1) := by decide +kernel
theorem dX5_felt_33 : decode cX5_felt 33 = .ok (.aload_n 0, 1) := by decide +kernel
theorem dX5_felt_34 : decode cX5_felt 34 = .ok (.getfield 19, 3) := by decide +kernel
theorem dX5_felt_37 : decode cX5_felt 37 = .ok (.aload_n 0, 1) := by decide +kernel
theorem dX5_felt_38 : decode cX5_felt 38 = .ok (.getfield 10, 3) := by decide +kernel
theorem dX5_felt_41 : decode cX5_felt 41 = .ok (.invokevirtual 159, 3) := by decide +kernel
theorem dX5_felt_44 : decode cX5_felt 44 = .ok (.aload_n 0, 1) := by decide +kernel
theorem dX5_felt_45 : decode cX5_felt 45 = .ok (.getfield 19, 3) := by decide +kernel
theorem dX5_felt_48 : decode cX5_felt 48 = .ok (.iload_n 3, 1) := by decide +kernel
theorem dX5_felt_49 : decode cX5_felt 49 = .ok (.invokevirtual 123, 3) := by decide +kernel
theorem dX5_felt_52 : decode cX5_felt 52 = .ok (.aload_n 0, 1) := by decide +kernel
theorem dX5_felt_53 : decode cX5_felt 53 = .ok (.getfield 19, 3) := by decide +kernel
theorem dX5_felt_56 : decode cX5_felt 56 = .ok (.getfield 99, 3) := by decide +kernel
theorem dX5_felt_59 : decode cX5_felt 59 = .ok (.iload_n 1, 1) := by decide +kernel
theorem dX5_felt_60 : decode cX5_felt 60 = .ok (.aaload, 1) := by decide +kernel
theorem dX5_felt_61 : decode cX5_felt 61 = .ok (.getfield 163, 3) := by decide +kernel
theorem dX5_felt_64 : decode cX5_felt 64 = .ok (.iload_n 2, 1) := by decide +kernel
theorem dX5_felt_65 : decode cX5_felt 65 = .ok (.iaload, 1) := by decide +kernel
theorem dX5_felt_66 : decode cX5_felt 66 = .ok (.ireturn, 1) := by decide +kernel
theorem dX5_when_0 : decode cX5_when 0 = .ok (.iload_n 1, 1) := by decide +kernel
theorem dX5_when_1 : decode cX5_when 1 = .ok (.invokestatic 54, 3) := by decide +kernel
theorem dX5_when_4 : decode cX5_when 4 = .ok (.ifCond .eq 17, 3) := by decide +kernel
theorem dX5_when_7 : decode cX5_when 7 = .ok (.iload_n 2, 1) := by decide +kernel
theorem dX5_when_8 : decode cX5_when 8 = .ok (.invokestatic 54, 3) := by decide +kernel
theorem dX5_when_11 : decode cX5_when 11 = .ok (.ifCond .eq 10, 3) := by decide +kernel
theorem dX5_when_14 : decode cX5_when 14 = .ok (.iload_n 3, 1) := by decide +kernel
theorem dX5_when_15 : decode cX5_when 15 = .ok (.invokestatic 58, 3) := by decide +kernel
theorem dX5_when_18 : decode cX5_when 18 = .ok (.ifCond .ne 9, 3) := by decide +kernel
theorem dX5_when_21 : decode cX5_when 21 = .ok (.aload_n 0, 1) := by decide +kernel
theorem dX5_when_22 : decode cX5_when 22 = .ok (.iconst 0, 1) := by decide +kernel
theorem dX5_when_23 : decode cX5_when 23 = .ok (.invokevirtual 61, 3) := by decide +kernel
theorem dX5_when_26 : decode cX5_when 26 = .ok (.ireturn, 1) := by decide +kernel
theorem dX5_when_27 : decode cX5_when 27 = .ok (.aload_n 0, 1) := by decide +kernel
theorem dX5_when_28 : decode cX5_when 28 = .ok (.getfield 19, 3) := by decide +kernel
theorem dX5_when_31 : decode cX5_when 31 = .ok (.aload_n 0, 1) := by decide +kernel
theorem dX5_when_32 : decode cX5_when 32 = .ok (.getfield 10, 3) := by decide +kernel
theorem dX5_when_35 : decode cX5_when 35 = .ok (.invokevirtual 159, 3) := by decide +kernel
theorem dX5_when_38 : decode cX5_when 38 = .ok (.iconst 0, 1) := by decide +kernel
theorem dX5_when_39 : decode cX5_when 39 = .ok (.istore 4, 2) := by decide +kernel
theorem dX5_when_41 : decode cX5_when 41 = .ok (.iload 4, 2) := by decide +kernel
theorem dX5_when_43 : decode cX5_when 43 = .ok (.bipush 100, 2) := by decide +kernel
theorem dX5_when_45 : decode cX5_when 45 = .ok (.if_icmp .gt 37, 3) := by decide +kernel
theorem dX5_when_48 : decode cX5_when 48 = .ok (.aload_n 0, 1) := by decide +kernel
theorem dX5_when_49 : decode cX5_when 49 = .ok (.getfield 25, 3) := by decide +kernel
theorem dX5_when_52 : decode cX5_when 52 = .ok (.aload_n 0, 1) := by decide +kernel
theorem dX5_when_53 : decode cX5_when 53 = .ok (.getfield 19, 3) := by decide +kernel
theorem dX5_when_56 : decode cX5_when 56 = .ok (.iload_n 1, 1) := by decide +kernel
theorem dX5_when_57 : decode cX5_when 57 = .ok (.iload_n 2, 1) := by decide +kernel
theorem dX5_when_58 : decode cX5_when 58 = .ok (.iload_n 3, 1) := by decide +kernel
theorem dX5_when_59 : decode cX5_when 59 = .ok (.invokevirtual 141, 3) := by decide +kernel
theorem dX5_when_62 : decode cX5_when 62 = .ok (.iconst (-1), 1) := by decide +kernel
theorem dX5_when_63 : decode cX5_when 63 = .ok (.if_icmp .eq 6, 3) := by decide +kernel
theorem dX5_when_66 : decode cX5_when 66 = .ok (.iload 4, 2) := by decide +kernel
theorem dX5_when_68 : decode cX5_when 68 = .ok (.ireturn, 1) := by decide +kernel
theorem dX5_when_69 : decode cX5_when 69 = .ok (.aload_n 0, 1) := by decide +kernel
theorem dX5_when_70 : decode cX5_when 70 = .ok (.getfield 19, 3) := by decide +kernel
theorem dX5_when_73 : decode cX5_when 73 = .ok (.invokevirtual 166, 3) := by decide +kernel
theorem dX5_when_76 : decode cX5_when 76 = .ok (.iinc 4 1, 3) := by decide +kernel
theorem dX5_when_79 : decode cX5_when 79 = .ok (.goto (-38), 3) := by decide +kernel
theorem dX5_when_82 : decode cX5_when 82 = .ok (.aload_n 0, 1) := by decide +kernel
theorem dX5_when_83 : decode cX5_when 83 = .ok (.iconst 3, 1) := by decide +kernel
theorem dX5_when_84 : decode cX5_when 84 = .ok (.invokevirtual 61, 3) := by decide +kernel
theorem dX5_when_87 : decode cX5_when 87 = .ok (.ireturn, 1) := by decide +kernel
theorem dX5_settles_0 : decode cX5_settles 0 = .ok (.aload_n 0, 1) := by decide +kernel
theorem dX5_settles_1 : decode cX5_settles 1 = .ok (.getfield 19, 3) := by decide +kernel
theorem dX5_settles_4 : decode cX5_settles 4 = .ok (.aload_n 0, 1) := by decide +kernel
theorem dX5_settles_5 : decode cX5_settles 5 = .ok (.getfield 10, 3) := by decide +kernel
theorem dX5_settles_8 : decode cX5_settles 8 = .ok (.invokevirtual 159, 3) := by decide +kernel
theorem dX5_settles_11 : decode cX5_settles 11 = .ok (.iconst 0, 1) := by decide +kernel
theorem dX5_settles_12 : decode cX5_settles 12 = .ok (.istore_n 1, 1) := by decide +kernel
theorem dX5_settles_13 : decode cX5_settles 13 = .ok (.iload_n 1, 1) := by decide +kernel
theorem dX5_settles_14 : decode cX5_settles 14 = .ok (.bipush 100, 2) := by decide +kernel
theorem dX5_settles_16 : decode cX5_settles 16 = .ok (.if_icmp .gt 50, 3) := by decide +kernel
theorem dX5_settles_19 : decode cX5_settles 19 = .ok (.aload_n 0, 1) := by decide +kernel
theorem dX5_settles_20 : decode cX5_settles 20 = .ok (.getfield 19, 3) := by decide +kernel
theorem dX5_settles_23 : decode cX5_settles 23 = .ok (.getfield 65, 3) := by decide +kernel
theorem dX5_settles_26 : decode cX5_settles 26 = .ok (.iconst 0, 1) := by decide +kernel
theorem dX5_settles_27 : decode cX5_settles 27 = .ok (.aload_n 0, 1) := by decide +kernel
theorem dX5_settles_28 : decode cX5_settles 28 = .ok (.getfield 46, 3) := by decide +kernel
theorem dX5_settles_31 : decode cX5_settles 31 = .ok (.iconst 0, 1) := by decide +kernel
theorem dX5_settles_32 : decode cX5_settles 32 = .ok (.bipush 25, 2) := by decide +kernel
theorem dX5_settles_34 : decode cX5_settles 34 = .ok (.invokestatic 169, 3) := by decide +kernel
theorem dX5_settles_37 : decode cX5_settles 37 = .ok (.aload_n 0, 1) := by decide +kernel
theorem dX5_settles_38 : decode cX5_settles 38 = .ok (.getfield 19, 3) := by decide +kernel
theorem dX5_settles_41 : decode cX5_settles 41 = .ok (.invokevirtual 166, 3) := by decide +kernel
theorem dX5_settles_44 : decode cX5_settles 44 = .ok (.aload_n 0, 1) := by decide +kernel
theorem dX5_settles_45 : decode cX5_settles 45 = .ok (.getfield 19, 3) := by decide +kernel
theorem dX5_settles_48 : decode cX5_settles 48 = .ok (.aload_n 0, 1) := by decide +kernel
theorem dX5_settles_49 : decode cX5_settles 49 = .ok (.getfield 46, 3) := by decide +kernel
theorem dX5_settles_52 : decode cX5_settles 52 = .ok (.invokevirtual 175, 3) := by decide +kernel
theorem dX5_settles_55 : decode cX5_settles 55 = .ok (.ifCond .eq 5, 3) := by decide +kernel
theorem dX5_settles_58 : decode cX5_settles 58 = .ok (.iload_n 1, 1) := by decide +kernel
theorem dX5_settles_59 : decode cX5_settles 59 = .ok (.ireturn, 1) := by decide +kernel
theorem dX5_settles_60 : decode cX5_settles 60 = .ok (.iinc 1 1, 3) := by decide +kernel
theorem dX5_settles_63 : decode cX5_settles 63 = .ok (.goto (-50), 3) := by decide +kernel
theorem dX5_settles_66 : decode cX5_settles 66 = .ok (.aload_n 0, 1) := by decide +kernel
theorem dX5_settles_67 : decode cX5_settles 67 = .ok (.iconst 3, 1) := by decide +kernel
theorem dX5_settles_68 : decode cX5_settles 68 = .ok (.invokevirtual 61, 3) := by decide +kernel
theorem dX5_settles_71 : decode cX5_settles 71 = .ok (.ireturn, 1) := by decide +kernel
theorem dX5_lies_0 : decode cX5_lies 0 = .ok (.aload_n 0, 1) := by decide +kernel
theorem dX5_lies_1 : decode cX5_lies 1 = .ok (.iload_n 1, 1) := by decide +kernel
theorem dX5_lies_2 : decode cX5_lies 2 = .ok (.invokevirtual 96, 3) := by decide +kernel
theorem dX5_lies_5 : decode cX5_lies 5 = .ok (.ifCond .eq 10, 3) := by decide +kernel
theorem dX5_lies_8 : decode cX5_lies 8 = .ok (.iload_n 2, 1) := by decide +kernel
theorem dX5_lies_9 : decode cX5_lies 9 = .ok (.invokestatic 58, 3) := by decide +kernel
theorem dX5_lies_12 : decode cX5_lies 12 = .ok (.ifCond .ne 9, 3) := by decide +kernel
theorem dX5_lies_15 : decode cX5_lies 15 = .ok (.aload_n 0, 1) := by decide +kernel
theorem dX5_lies_16 : decode cX5_lies 16 = .ok (.iconst 0, 1) := by decide +kernel
theorem dX5_lies_17 : decode cX5_lies 17 = .ok (.invokevirtual 61, 3) := by decide +kernel
theorem dX5_lies_20 : decode cX5_lies 20 = .ok (.ireturn, 1) := by decide +kernel
theorem dX5_lies_21 : decode cX5_lies 21 = .ok (.aload_n 0, 1) := by decide +kernel
theorem dX5_lies_22 : decode cX5_lies 22 = .ok (.getfield 10, 3) := by decide +kernel
theorem dX5_lies_25 : decode cX5_lies 25 = .ok (.getfield 99, 3) := by decide +kernel
theorem dX5_lies_28 : decode cX5_lies 28 = .ok (.iload_n 1, 1) := by decide +kernel
theorem dX5_lies_29 : decode cX5_lies 29 = .ok (.aaload, 1) := by decide +kernel
theorem dX5_lies_30 : decode cX5_lies 30 = .ok (.invokevirtual 179, 3) := by decide +kernel
theorem dX5_lies_33 : decode cX5_lies 33 = .ok (.ifCond .ne 9, 3) := by decide +kernel
theorem dX5_lies_36 : decode cX5_lies 36 = .ok (.aload_n 0, 1) := by decide +kernel
theorem dX5_lies_37 : decode cX5_lies 37 = .ok (.iconst 4, 1) := by decide +kernel
theorem dX5_lies_38 : decode cX5_lies 38 = .ok (.invokevirtual 61, 3) := by decide +kernel
theorem dX5_lies_41 : decode cX5_lies 41 = .ok (.ireturn, 1) := by decide +kernel
theorem dX5_lies_42 : decode cX5_lies 42 = .ok (.aload_n 0, 1) := by decide +kernel
theorem dX5_lies_43 : decode cX5_lies 43 = .ok (.getfield 19, 3) := by decide +kernel
theorem dX5_lies_46 : decode cX5_lies 46 = .ok (.aload_n 0, 1) := by decide +kernel
theorem dX5_lies_47 : decode cX5_lies 47 = .ok (.getfield 10, 3) := by decide +kernel
theorem dX5_lies_50 : decode cX5_lies 50 = .ok (.invokevirtual 159, 3) := by decide +kernel
theorem dX5_lies_53 : decode cX5_lies 53 = .ok (.iconst 0, 1) := by decide +kernel
theorem dX5_lies_54 : decode cX5_lies 54 = .ok (.istore_n 3, 1) := by decide +kernel
theorem dX5_lies_55 : decode cX5_lies 55 = .ok (.iload_n 3, 1) := by decide +kernel
theorem dX5_lies_56 : decode cX5_lies 56 = .ok (.bipush 100, 2) := by decide +kernel
theorem dX5_lies_58 : decode cX5_lies 58 = .ok (.if_icmp .gt 38, 3) := by decide +kernel
theorem dX5_lies_61 : decode cX5_lies 61 = .ok (.aload_n 0, 1) := by decide +kernel
theorem dX5_lies_62 : decode cX5_lies 62 = .ok (.getfield 19, 3) := by decide +kernel
theorem dX5_lies_65 : decode cX5_lies 65 = .ok (.aload_n 0, 1) := by decide +kernel
theorem dX5_lies_66 : decode cX5_lies 66 = .ok (.getfield 19, 3) := by decide +kernel
theorem dX5_lies_69 : decode cX5_lies 69 = .ok (.getfield 99, 3) := by decide +kernel
theorem dX5_lies_72 : decode cX5_lies 72 = .ok (.iload_n 1, 1) := by decide +kernel
theorem dX5_lies_73 : decode cX5_lies 73 = .ok (.aaload, 1) := by decide +kernel
theorem dX5_lies_74 : decode cX5_lies 74 = .ok (.invokevirtual 183, 3) := by decide +kernel
theorem dX5_lies_77 : decode cX5_lies 77 = .ok (.iload_n 2, 1) := by decide +kernel
theorem dX5_lies_78 : decode cX5_lies 78 = .ok (.if_icmp .gt 5, 3) := by decide +kernel
theorem dX5_lies_81 : decode cX5_lies 81 = .ok (.iload_n 3, 1) := by decide +kernel
theorem dX5_lies_82 : decode cX5_lies 82 = .ok (.ireturn, 1) := by decide +kernel
theorem dX5_lies_83 : decode cX5_lies 83 = .ok (.aload_n 0, 1) := by decide +kernel
theorem dX5_lies_84 : decode cX5_lies 84 = .ok (.getfield 19, 3) := by decide +kernel
theorem dX5_lies_87 : decode cX5_lies 87 = .ok (.invokevirtual 166, 3) := by decide +kernel
theorem dX5_lies_90 : decode cX5_lies 90 = .ok (.iinc 3 1, 3) := by decide +kernel
theorem dX5_lies_93 : decode cX5_lies 93 = .ok (.goto (-38), 3) := by decide +kernel
theorem dX5_lies_96 : decode cX5_lies 96 = .ok (.aload_n 0, 1) := by decide +kernel
theorem dX5_lies_97 : decode cX5_lies 97 = .ok (.iconst 3, 1) := by decide +kernel
theorem dX5_lies_98 : decode cX5_lies 98 = .ok (.invokevirtual 61, 3) := by decide +kernel
theorem dX5_lies_101 : decode cX5_lies 101 = .ok (.ireturn, 1) := by decide +kernel
theorem dX5_unlike_0 : decode cX5_unlike 0 = .ok (.aload_n 0, 1) := by decide +kernel
theorem dX5_unlike_1 : decode cX5_unlike 1 = .ok (.iload_n 1, 1) := by decide +kernel
theorem dX5_unlike_2 : decode cX5_unlike 2 = .ok (.invokevirtual 96, 3) := by decide +kernel
theorem dX5_unlike_5 : decode cX5_unlike 5 = .ok (.ifCond .eq 10, 3) := by decide +kernel
theorem dX5_unlike_8 : decode cX5_unlike 8 = .ok (.iload_n 2, 1) := by decide +kernel
theorem dX5_unlike_9 : decode cX5_unlike 9 = .ok (.invokestatic 187, 3) := by decide +kernel
theorem dX5_unlike_12 : decode cX5_unlike 12 = .ok (.ifCond .ne 9, 3) := by decide +kernel
theorem dX5_unlike_15 : decode cX5_unlike 15 = .ok (.aload_n 0, 1) := by decide +kernel
theorem dX5_unlike_16 : decode cX5_unlike 16 = .ok (.iconst 0, 1) := by decide +kernel
theorem dX5_unlike_17 : decode cX5_unlike 17 = .ok (.invokevirtual 61, 3) := by decide +kernel
theorem dX5_unlike_20 : decode cX5_unlike 20 = .ok (.ireturn, 1) := by decide +kernel
theorem dX5_unlike_21 : decode cX5_unlike 21 = .ok (.aload_n 0, 1) := by decide +kernel
theorem dX5_unlike_22 : decode cX5_unlike 22 = .ok (.getfield 10, 3) := by decide +kernel
theorem dX5_unlike_25 : decode cX5_unlike 25 = .ok (.aload_n 0, 1) := by decide +kernel
theorem dX5_unlike_26 : decode cX5_unlike 26 = .ok (.getfield 10, 3) := by decide +kernel
theorem dX5_unlike_29 : decode cX5_unlike 29 = .ok (.getfield 99, 3) := by decide +kernel
theorem dX5_unlike_32 : decode cX5_unlike 32 = .ok (.iload_n 1, 1) := by decide +kernel
theorem dX5_unlike_33 : decode cX5_unlike 33 = .ok (.aaload, 1) := by decide +kernel
theorem dX5_unlike_34 : decode cX5_unlike 34 = .ok (.iload_n 2, 1) := by decide +kernel
theorem dX5_unlike_35 : decode cX5_unlike 35 = .ok (.invokevirtual 190, 3) := by decide +kernel
theorem dX5_unlike_38 : decode cX5_unlike 38 = .ok (.ireturn, 1) := by decide +kernel
theorem dX5_home_0 : decode cX5_home 0 = .ok (.aload_n 0, 1) := by decide +kernel
theorem dX5_home_1 : decode cX5_home 1 = .ok (.iload_n 1, 1) := by decide +kernel
theorem dX5_home_2 : decode cX5_home 2 = .ok (.invokevirtual 96, 3) := by decide +kernel
theorem dX5_home_5 : decode cX5_home 5 = .ok (.ifCond .ne 9, 3) := by decide +kernel
theorem dX5_home_8 : decode cX5_home 8 = .ok (.aload_n 0, 1) := by decide +kernel
theorem dX5_home_9 : decode cX5_home 9 = .ok (.iconst 0, 1) := by decide +kernel
theorem dX5_home_10 : decode cX5_home 10 = .ok (.invokevirtual 61, 3) := by decide +kernel
theorem dX5_home_13 : decode cX5_home 13 = .ok (.ireturn, 1) := by decide +kernel
theorem dX5_home_14 : decode cX5_home 14 = .ok (.iconst 0, 1) := by decide +kernel
theorem dX5_home_15 : decode cX5_home 15 = .ok (.istore_n 2, 1) := by decide +kernel
theorem dX5_home_16 : decode cX5_home 16 = .ok (.iconst 1, 1) := by decide +kernel
theorem dX5_home_17 : decode cX5_home 17 = .ok (.istore_n 3, 1) := by decide +kernel
theorem dX5_home_18 : decode cX5_home 18 = .ok (.iload_n 3, 1) := by decide +kernel
theorem dX5_home_19 : decode cX5_home 19 = .ok (.bipush 16, 2) := by decide +kernel
theorem dX5_home_21 : decode cX5_home 21 = .ok (.if_icmp .ge 48, 3) := by decide +kernel
theorem dX5_home_24 : decode cX5_home 24 = .ok (.aload_n 0, 1) := by decide +kernel
theorem dX5_home_25 : decode cX5_home 25 = .ok (.getfield 10, 3) := by decide +kernel
theorem dX5_home_28 : decode cX5_home 28 = .ok (.aload_n 0, 1) := by decide +kernel
theorem dX5_home_29 : decode cX5_home 29 = .ok (.getfield 10, 3) := by decide +kernel
theorem dX5_home_32 : decode cX5_home 32 = .ok (.getfield 99, 3) := by decide +kernel
theorem dX5_home_35 : decode cX5_home 35 = .ok (.iload_n 1, 1) := by decide +kernel
theorem dX5_home_36 : decode cX5_home 36 = .ok (.aaload, 1) := by decide +kernel
theorem dX5_home_37 : decode cX5_home 37 = .ok (.iload_n 3, 1) := by decide +kernel
theorem dX5_home_38 : decode cX5_home 38 = .ok (.invokevirtual 190, 3) := by decide +kernel
theorem dX5_home_41 : decode cX5_home 41 = .ok (.aload_n 0, 1) := by decide +kernel
theorem dX5_home_42 : decode cX5_home 42 = .ok (.getfield 10, 3) := by decide +kernel
theorem dX5_home_45 : decode cX5_home 45 = .ok (.aload_n 0, 1) := by decide +kernel
theorem dX5_home_46 : decode cX5_home 46 = .ok (.getfield 10, 3) := by decide +kernel
theorem dX5_home_49 : decode cX5_home 49 = .ok (.getfield 99, 3) := by decide +kernel
theorem dX5_home_52 : decode cX5_home 52 = .ok (.iload_n 1, 1) := by decide +kernel
theorem dX5_home_53 : decode cX5_home 53 = .ok (.aaload, 1) := by decide +kernel
theorem dX5_home_54 : decode cX5_home 54 = .ok (.iload_n 2, 1) := by decide +kernel
theorem dX5_home_55 : decode cX5_home 55 = .ok (.invokevirtual 190, 3) := by decide +kernel
theorem dX5_home_58 : decode cX5_home 58 = .ok (.if_icmp .ge 5, 3) := by decide +kernel
theorem dX5_home_61 : decode cX5_home 61 = .ok (.iload_n 3, 1) := by decide +kernel
theorem dX5_home_62 : decode cX5_home 62 = .ok (.istore_n 2, 1) := by decide +kernel
theorem dX5_home_63 : decode cX5_home 63 = .ok (.iinc 3 1, 3) := by decide +kernel
theorem dX5_home_66 : decode cX5_home 66 = .ok (.goto (-48), 3) := by decide +kernel
theorem dX5_home_69 : decode cX5_home 69 = .ok (.iload_n 2, 1) := by decide +kernel
theorem dX5_home_70 : decode cX5_home 70 = .ok (.ireturn, 1) := by decide +kernel
theorem dX5_pitchFor_0 : decode cX5_pitchFor 0 = .ok (.aload_n 0, 1) := by decide +kernel
theorem dX5_pitchFor_1 : decode cX5_pitchFor 1 = .ok (.iload_n 1, 1) := by decide +kernel
theorem dX5_pitchFor_2 : decode cX5_pitchFor 2 = .ok (.invokevirtual 96, 3) := by decide +kernel
theorem dX5_pitchFor_5 : decode cX5_pitchFor 5 = .ok (.ifCond .eq 25, 3) := by decide +kernel
theorem dX5_pitchFor_8 : decode cX5_pitchFor 8 = .ok (.iload_n 2, 1) := by decide +kernel
theorem dX5_pitchFor_9 : decode cX5_pitchFor 9 = .ok (.invokestatic 54, 3) := by decide +kernel
theorem dX5_pitchFor_12 : decode cX5_pitchFor 12 = .ok (.ifCond .eq 18, 3) := by decide +kernel
theorem dX5_pitchFor_15 : decode cX5_pitchFor 15 = .ok (.iload_n 3, 1) := by decide +kernel
theorem dX5_pitchFor_16 : decode cX5_pitchFor 16 = .ok (.invokestatic 54, 3) := by decide +kernel
theorem dX5_pitchFor_19 : decode cX5_pitchFor 19 = .ok (.ifCond .eq 11, 3) := by decide +kernel
theorem dX5_pitchFor_22 : decode cX5_pitchFor 22 = .ok (.iload 4, 2) := by decide +kernel
theorem dX5_pitchFor_24 : decode cX5_pitchFor 24 = .ok (.invokestatic 58, 3) := by decide +kernel
theorem dX5_pitchFor_27 : decode cX5_pitchFor 27 = .ok (.ifCond .ne 9, 3) := by decide +kernel
theorem dX5_pitchFor_30 : decode cX5_pitchFor 30 = .ok (.aload_n 0, 1) := by decide +kernel
theorem dX5_pitchFor_31 : decode cX5_pitchFor 31 = .ok (.iconst 0, 1) := by decide +kernel
theorem dX5_pitchFor_32 : decode cX5_pitchFor 32 = .ok (.invokevirtual 61, 3) := by decide +kernel
theorem dX5_pitchFor_35 : decode cX5_pitchFor 35 = .ok (.ireturn, 1) := by decide +kernel
theorem dX5_pitchFor_36 : decode cX5_pitchFor 36 = .ok (.iconst 0, 1) := by decide +kernel
theorem dX5_pitchFor_37 : decode cX5_pitchFor 37 = .ok (.istore 5, 2) := by decide +kernel
theorem dX5_pitchFor_39 : decode cX5_pitchFor 39 = .ok (.iload 5, 2) := by decide +kernel
theorem dX5_pitchFor_41 : decode cX5_pitchFor 41 = .ok (.bipush 16, 2) := by decide +kernel
theorem dX5_pitchFor_43 : decode cX5_pitchFor 43 = .ok (.if_icmp .ge 63, 3) := by decide +kernel
theorem dX5_pitchFor_46 : decode cX5_pitchFor 46 = .ok (.aload_n 0, 1) := by decide +kernel
theorem dX5_pitchFor_47 : decode cX5_pitchFor 47 = .ok (.getfield 19, 3) := by decide +kernel
theorem dX5_pitchFor_50 : decode cX5_pitchFor 50 = .ok (.aload_n 0, 1) := by decide +kernel
theorem dX5_pitchFor_51 : decode cX5_pitchFor 51 = .ok (.getfield 10, 3) := by decide +kernel
theorem dX5_pitchFor_54 : decode cX5_pitchFor 54 = .ok (.invokevirtual 159, 3) := by decide +kernel
theorem dX5_pitchFor_57 : decode cX5_pitchFor 57 = .ok (.aload_n 0, 1) := by decide +kernel
theorem dX5_pitchFor_58 : decode cX5_pitchFor 58 = .ok (.getfield 19, 3) := by decide +kernel
theorem dX5_pitchFor_61 : decode cX5_pitchFor 61 = .ok (.getfield 99, 3) := by decide +kernel
theorem dX5_pitchFor_64 : decode cX5_pitchFor 64 = .ok (.iload_n 1, 1) := by decide +kernel
theorem dX5_pitchFor_65 : decode cX5_pitchFor 65 = .ok (.aaload, 1) := by decide +kernel
theorem dX5_pitchFor_66 : decode cX5_pitchFor 66 = .ok (.iload 5, 2) := by decide +kernel
theorem dX5_pitchFor_68 : decode cX5_pitchFor 68 = .ok (.putfield 194, 3) := by decide +kernel
theorem dX5_pitchFor_71 : decode cX5_pitchFor 71 = .ok (.aload_n 0, 1) := by decide +kernel
theorem dX5_pitchFor_72 : decode cX5_pitchFor 72 = .ok (.getfield 19, 3) := by decide +kernel
theorem dX5_pitchFor_75 : decode cX5_pitchFor 75 = .ok (.invokevirtual 166, 3) := by decide +kernel
theorem dX5_pitchFor_78 : decode cX5_pitchFor 78 = .ok (.aload_n 0, 1) := by decide +kernel
theorem dX5_pitchFor_79 : decode cX5_pitchFor 79 = .ok (.getfield 25, 3) := by decide +kernel
theorem dX5_pitchFor_82 : decode cX5_pitchFor 82 = .ok (.aload_n 0, 1) := by decide +kernel
theorem dX5_pitchFor_83 : decode cX5_pitchFor 83 = .ok (.getfield 19, 3) := by decide +kernel
theorem dX5_pitchFor_86 : decode cX5_pitchFor 86 = .ok (.iload_n 2, 1) := by decide +kernel
theorem dX5_pitchFor_87 : decode cX5_pitchFor 87 = .ok (.iload_n 3, 1) := by decide +kernel
theorem dX5_pitchFor_88 : decode cX5_pitchFor 88 = .ok (.iload 4, 2) := by decide +kernel
theorem dX5_pitchFor_90 : decode cX5_pitchFor 90 = .ok (.invokevirtual 141, 3) := by decide +kernel
theorem dX5_pitchFor_93 : decode cX5_pitchFor 93 = .ok (.iconst (-1), 1) := by decide +kernel
theorem dX5_pitchFor_94 : decode cX5_pitchFor 94 = .ok (.if_icmp .eq 6, 3) := by decide +kernel
theorem dX5_pitchFor_97 : decode cX5_pitchFor 97 = .ok (.iload 5, 2) := by decide +kernel
theorem dX5_pitchFor_99 : decode cX5_pitchFor 99 = .ok (.ireturn, 1) := by decide +kernel
theorem dX5_pitchFor_100 : decode cX5_pitchFor 100 = .ok (.iinc 5 1, 3) := by decide +kernel
theorem dX5_pitchFor_103 : decode cX5_pitchFor 103 = .ok (.goto (-64), 3) := by decide +kernel
theorem dX5_pitchFor_106 : decode cX5_pitchFor 106 = .ok (.aload_n 0, 1) := by decide +kernel
theorem dX5_pitchFor_107 : decode cX5_pitchFor 107 = .ok (.iconst 3, 1) := by decide +kernel
theorem dX5_pitchFor_108 : decode cX5_pitchFor 108 = .ok (.invokevirtual 61, 3) := by decide +kernel
theorem dX5_pitchFor_111 : decode cX5_pitchFor 111 = .ok (.ireturn, 1) := by decide +kernel
theorem dX5_kindFor_0 : decode cX5_kindFor 0 = .ok (.aload_n 0, 1) := by decide +kernel
theorem dX5_kindFor_1 : decode cX5_kindFor 1 = .ok (.iload_n 1, 1) := by decide +kernel
theorem dX5_kindFor_2 : decode cX5_kindFor 2 = .ok (.invokevirtual 96, 3) := by decide +kernel
theorem dX5_kindFor_5 : decode cX5_kindFor 5 = .ok (.ifCond .eq 13, 3) := by decide +kernel
theorem dX5_kindFor_8 : decode cX5_kindFor 8 = .ok (.iload_n 2, 1) := by decide +kernel
theorem dX5_kindFor_9 : decode cX5_kindFor 9 = .ok (.iconst 0, 1) := by decide +kernel
theorem dX5_kindFor_10 : decode cX5_kindFor 10 = .ok (.bipush 60, 2) := by decide +kernel
theorem dX5_kindFor_12 : decode cX5_kindFor 12 = .ok (.invokestatic 68, 3) := by decide +kernel
theorem dX5_kindFor_15 : decode cX5_kindFor 15 = .ok (.ifCond .ne 9, 3) := by decide +kernel
theorem dX5_kindFor_18 : decode cX5_kindFor 18 = .ok (.aload_n 0, 1) := by decide +kernel
theorem dX5_kindFor_19 : decode cX5_kindFor 19 = .ok (.iconst 0, 1) := by decide +kernel
theorem dX5_kindFor_20 : decode cX5_kindFor 20 = .ok (.invokevirtual 61, 3) := by decide +kernel
theorem dX5_kindFor_23 : decode cX5_kindFor 23 = .ok (.ireturn, 1) := by decide +kernel
theorem dX5_kindFor_24 : decode cX5_kindFor 24 = .ok (.iconst 0, 1) := by decide +kernel
theorem dX5_kindFor_25 : decode cX5_kindFor 25 = .ok (.istore_n 3, 1) := by decide +kernel
theorem dX5_kindFor_26 : decode cX5_kindFor 26 = .ok (.bipush 100, 2) := by decide +kernel
theorem dX5_kindFor_28 : decode cX5_kindFor 28 = .ok (.istore 4, 2) := by decide +kernel
theorem dX5_kindFor_30 : decode cX5_kindFor 30 = .ok (.iconst 0, 1) := by decide +kernel
theorem dX5_kindFor_31 : decode cX5_kindFor 31 = .ok (.istore 5, 2) := by decide +kernel
theorem dX5_kindFor_33 : decode cX5_kindFor 33 = .ok (.iload 5, 2) := by decide +kernel
theorem dX5_kindFor_35 : decode cX5_kindFor 35 = .ok (.bipush 7, 2) := by decide +kernel
theorem dX5_kindFor_37 : decode cX5_kindFor 37 = .ok (.if_icmp .ge 65, 3) := by decide +kernel
theorem dX5_kindFor_40 : decode cX5_kindFor 40 = .ok (.aload_n 0, 1) := by decide +kernel
theorem dX5_kindFor_41 : decode cX5_kindFor 41 = .ok (.getfield 19, 3) := by decide +kernel
theorem dX5_kindFor_44 : decode cX5_kindFor 44 = .ok (.aload_n 0, 1) := by decide +kernel
theorem dX5_kindFor_45 : decode cX5_kindFor 45 = .ok (.getfield 10, 3) := by decide +kernel
theorem dX5_kindFor_48 : decode cX5_kindFor 48 = .ok (.invokevirtual 159, 3) := by decide +kernel
theorem dX5_kindFor_51 : decode cX5_kindFor 51 = .ok (.aload_n 0, 1) := by decide +kernel
theorem dX5_kindFor_52 : decode cX5_kindFor 52 = .ok (.getfield 19, 3) := by decide +kernel
theorem dX5_kindFor_55 : decode cX5_kindFor 55 = .ok (.getfield 99, 3) := by decide +kernel
theorem dX5_kindFor_58 : decode cX5_kindFor 58 = .ok (.iload_n 1, 1) := by decide +kernel
theorem dX5_kindFor_59 : decode cX5_kindFor 59 = .ok (.aaload, 1) := by decide +kernel
theorem dX5_kindFor_60 : decode cX5_kindFor 60 = .ok (.iload 5, 2) := by decide +kernel
theorem dX5_kindFor_62 : decode cX5_kindFor 62 = .ok (.putfield 197, 3) := by decide +kernel
theorem dX5_kindFor_65 : decode cX5_kindFor 65 = .ok (.aload_n 0, 1) := by decide +kernel
theorem dX5_kindFor_66 : decode cX5_kindFor 66 = .ok (.getfield 19, 3) := by decide +kernel
theorem dX5_kindFor_69 : decode cX5_kindFor 69 = .ok (.iload_n 2, 1) := by decide +kernel
theorem dX5_kindFor_70 : decode cX5_kindFor 70 = .ok (.invokevirtual 123, 3) := by decide +kernel
theorem dX5_kindFor_73 : decode cX5_kindFor 73 = .ok (.aload_n 0, 1) := by decide +kernel
theorem dX5_kindFor_74 : decode cX5_kindFor 74 = .ok (.getfield 19, 3) := by decide +kernel
theorem dX5_kindFor_77 : decode cX5_kindFor 77 = .ok (.invokevirtual 138, 3) := by decide +kernel
theorem dX5_kindFor_80 : decode cX5_kindFor 80 = .ok (.istore 6, 2) := by decide +kernel
theorem dX5_kindFor_82 : decode cX5_kindFor 82 = .ok (.iload 6, 2) := by decide +kernel
theorem dX5_kindFor_84 : decode cX5_kindFor 84 = .ok (.iload 4, 2) := by decide +kernel
theorem dX5_kindFor_86 : decode cX5_kindFor 86 = .ok (.if_icmp .ge 10, 3) := by decide +kernel
theorem dX5_kindFor_89 : decode cX5_kindFor 89 = .ok (.iload 6, 2) := by decide +kernel
theorem dX5_kindFor_91 : decode cX5_kindFor 91 = .ok (.istore 4, 2) := by decide +kernel
theorem dX5_kindFor_93 : decode cX5_kindFor 93 = .ok (.iload 5, 2) := by decide +kernel
theorem dX5_kindFor_95 : decode cX5_kindFor 95 = .ok (.istore_n 3, 1) := by decide +kernel
theorem dX5_kindFor_96 : decode cX5_kindFor 96 = .ok (.iinc 5 1, 3) := by decide +kernel
theorem dX5_kindFor_99 : decode cX5_kindFor 99 = .ok (.goto (-66), 3) := by decide +kernel
theorem dX5_kindFor_102 : decode cX5_kindFor 102 = .ok (.iload_n 3, 1) := by decide +kernel
theorem dX5_kindFor_103 : decode cX5_kindFor 103 = .ok (.ireturn, 1) := by decide +kernel
theorem dX5_first_0 : decode cX5_first 0 = .ok (.aload_n 0, 1) := by decide +kernel
theorem dX5_first_1 : decode cX5_first 1 = .ok (.iload_n 1, 1) := by decide +kernel
theorem dX5_first_2 : decode cX5_first 2 = .ok (.invokevirtual 96, 3) := by decide +kernel
theorem dX5_first_5 : decode cX5_first 5 = .ok (.ifCond .eq 23, 3) := by decide +kernel
theorem dX5_first_8 : decode cX5_first 8 = .ok (.aload_n 0, 1) := by decide +kernel
theorem dX5_first_9 : decode cX5_first 9 = .ok (.iload_n 2, 1) := by decide +kernel
theorem dX5_first_10 : decode cX5_first 10 = .ok (.invokevirtual 96, 3) := by decide +kernel
theorem dX5_first_13 : decode cX5_first 13 = .ok (.ifCond .eq 15, 3) := by decide +kernel
theorem dX5_first_16 : decode cX5_first 16 = .ok (.iload_n 1, 1) := by decide +kernel
theorem dX5_first_17 : decode cX5_first 17 = .ok (.iload_n 2, 1) := by decide +kernel
theorem dX5_first_18 : decode cX5_first 18 = .ok (.if_icmp .eq 10, 3) := by decide +kernel
theorem dX5_first_21 : decode cX5_first 21 = .ok (.iload_n 3, 1) := by decide +kernel
theorem dX5_first_22 : decode cX5_first 22 = .ok (.invokestatic 187, 3) := by decide +kernel
theorem dX5_first_25 : decode cX5_first 25 = .ok (.ifCond .ne 9, 3) := by decide +kernel
theorem dX5_first_28 : decode cX5_first 28 = .ok (.aload_n 0, 1) := by decide +kernel
theorem dX5_first_29 : decode cX5_first 29 = .ok (.iconst 0, 1) := by decide +kernel
theorem dX5_first_30 : decode cX5_first 30 = .ok (.invokevirtual 61, 3) := by decide +kernel
theorem dX5_first_33 : decode cX5_first 33 = .ok (.ireturn, 1) := by decide +kernel
theorem dX5_first_34 : decode cX5_first 34 = .ok (.aload_n 0, 1) := by decide +kernel
theorem dX5_first_35 : decode cX5_first 35 = .ok (.iload_n 1, 1) := by decide +kernel
theorem dX5_first_36 : decode cX5_first 36 = .ok (.iload_n 2, 1) := by decide +kernel
theorem dX5_first_37 : decode cX5_first 37 = .ok (.iload_n 3, 1) := by decide +kernel
theorem dX5_first_38 : decode cX5_first 38 = .ok (.invokevirtual 200, 3) := by decide +kernel
theorem dX5_first_41 : decode cX5_first 41 = .ok (.aload_n 0, 1) := by decide +kernel
theorem dX5_first_42 : decode cX5_first 42 = .ok (.iload_n 2, 1) := by decide +kernel
theorem dX5_first_43 : decode cX5_first 43 = .ok (.iload_n 1, 1) := by decide +kernel
theorem dX5_first_44 : decode cX5_first 44 = .ok (.iload_n 3, 1) := by decide +kernel
theorem dX5_first_45 : decode cX5_first 45 = .ok (.invokevirtual 200, 3) := by decide +kernel
theorem dX5_first_48 : decode cX5_first 48 = .ok (.isub, 1) := by decide +kernel
theorem dX5_first_49 : decode cX5_first 49 = .ok (.ireturn, 1) := by decide +kernel
theorem dX5_out_0 : decode cX5_out 0 = .ok (.aload_n 0, 1) := by decide +kernel
theorem dX5_out_1 : decode cX5_out 1 = .ok (.iload_n 1, 1) := by decide +kernel
theorem dX5_out_2 : decode cX5_out 2 = .ok (.invokevirtual 96, 3) := by decide +kernel
theorem dX5_out_5 : decode cX5_out 5 = .ok (.ifCond .eq 25, 3) := by decide +kernel
theorem dX5_out_8 : decode cX5_out 8 = .ok (.iload_n 2, 1) := by decide +kernel
theorem dX5_out_9 : decode cX5_out 9 = .ok (.invokestatic 187, 3) := by decide +kernel
theorem dX5_out_12 : decode cX5_out 12 = .ok (.ifCond .eq 18, 3) := by decide +kernel
theorem dX5_out_15 : decode cX5_out 15 = .ok (.iload_n 3, 1) := by decide +kernel
theorem dX5_out_16 : decode cX5_out 16 = .ok (.invokestatic 58, 3) := by decide +kernel
theorem dX5_out_19 : decode cX5_out 19 = .ok (.ifCond .eq 11, 3) := by decide +kernel
theorem dX5_out_22 : decode cX5_out 22 = .ok (.iload 4, 2) := by decide +kernel
theorem dX5_out_24 : decode cX5_out 24 = .ok (.invokestatic 58, 3) := by decide +kernel
theorem dX5_out_27 : decode cX5_out 27 = .ok (.ifCond .ne 9, 3) := by decide +kernel
theorem dX5_out_30 : decode cX5_out 30 = .ok (.aload_n 0, 1) := by decide +kernel
theorem dX5_out_31 : decode cX5_out 31 = .ok (.iconst 0, 1) := by decide +kernel
theorem dX5_out_32 : decode cX5_out 32 = .ok (.invokevirtual 61, 3) := by decide +kernel
theorem dX5_out_35 : decode cX5_out 35 = .ok (.ireturn, 1) := by decide +kernel
theorem dX5_out_36 : decode cX5_out 36 = .ok (.aload_n 0, 1) := by decide +kernel
theorem dX5_out_37 : decode cX5_out 37 = .ok (.iload_n 1, 1) := by decide +kernel
theorem dX5_out_38 : decode cX5_out 38 = .ok (.iload_n 2, 1) := by decide +kernel
theorem dX5_out_39 : decode cX5_out 39 = .ok (.invokevirtual 204, 3) := by decide +kernel
theorem dX5_out_42 : decode cX5_out 42 = .ok (.iconst 0, 1) := by decide +kernel
theorem dX5_out_43 : decode cX5_out 43 = .ok (.istore 5, 2) := by decide +kernel
theorem dX5_out_45 : decode cX5_out 45 = .ok (.iload 5, 2) := by decide +kernel
theorem dX5_out_47 : decode cX5_out 47 = .ok (.bipush 60, 2) := by decide +kernel
theorem dX5_out_49 : decode cX5_out 49 = .ok (.if_icmp .gt 37, 3) := by decide +kernel
theorem dX5_out_52 : decode cX5_out 52 = .ok (.aload_n 0, 1) := by decide +kernel
theorem dX5_out_53 : decode cX5_out 53 = .ok (.getfield 19, 3) := by decide +kernel
theorem dX5_out_56 : decode cX5_out 56 = .ok (.getfield 99, 3) := by decide +kernel
theorem dX5_out_59 : decode cX5_out 59 = .ok (.iload_n 1, 1) := by decide +kernel
theorem dX5_out_60 : decode cX5_out 60 = .ok (.aaload, 1) := by decide +kernel
theorem dX5_out_61 : decode cX5_out 61 = .ok (.iload_n 3, 1) := by decide +kernel
theorem dX5_out_62 : decode cX5_out 62 = .ok (.iload 4, 2) := by decide +kernel
theorem dX5_out_64 : decode cX5_out 64 = .ok (.invokevirtual 207, 3) := by decide +kernel
theorem dX5_out_67 : decode cX5_out 67 = .ok (.ifCond .eq 6, 3) := by decide +kernel
theorem dX5_out_70 : decode cX5_out 70 = .ok (.iload 5, 2) := by decide +kernel
theorem dX5_out_72 : decode cX5_out 72 = .ok (.ireturn, 1) := by decide +kernel
theorem dX5_out_73 : decode cX5_out 73 = .ok (.aload_n 0, 1) := by decide +kernel
theorem dX5_out_74 : decode cX5_out 74 = .ok (.getfield 19, 3) := by decide +kernel
theorem dX5_out_77 : decode cX5_out 77 = .ok (.invokevirtual 166, 3) := by decide +kernel
theorem dX5_out_80 : decode cX5_out 80 = .ok (.iinc 5 1, 3) := by decide +kernel
theorem dX5_out_83 : decode cX5_out 83 = .ok (.goto (-38), 3) := by decide +kernel
theorem dX5_out_86 : decode cX5_out 86 = .ok (.aload_n 0, 1) := by decide +kernel
theorem dX5_out_87 : decode cX5_out 87 = .ok (.iconst 3, 1) := by decide +kernel
theorem dX5_out_88 : decode cX5_out 88 = .ok (.invokevirtual 61, 3) := by decide +kernel
theorem dX5_out_91 : decode cX5_out 91 = .ok (.ireturn, 1) := by decide +kernel
theorem dX5_fits_0 : decode cX5_fits 0 = .ok (.aload_n 0, 1) := by decide +kernel
theorem dX5_fits_1 : decode cX5_fits 1 = .ok (.iload_n 1, 1) := by decide +kernel
theorem dX5_fits_2 : decode cX5_fits 2 = .ok (.invokevirtual 210, 3) := by decide +kernel
theorem dX5_fits_5 : decode cX5_fits 5 = .ok (.istore_n 3, 1) := by decide +kernel
theorem dX5_fits_6 : decode cX5_fits 6 = .ok (.iload_n 3, 1) := by decide +kernel
theorem dX5_fits_7 : decode cX5_fits 7 = .ok (.iconst (-1), 1) := by decide +kernel
theorem dX5_fits_8 : decode cX5_fits 8 = .ok (.if_icmp .eq 9, 3) := by decide +kernel
theorem dX5_fits_11 : decode cX5_fits 11 = .ok (.aload_n 0, 1) := by decide +kernel
theorem dX5_fits_12 : decode cX5_fits 12 = .ok (.iload_n 3, 1) := by decide +kernel
theorem dX5_fits_13 : decode cX5_fits 13 = .ok (.invokevirtual 61, 3) := by decide +kernel
theorem dX5_fits_16 : decode cX5_fits 16 = .ok (.ireturn, 1) := by decide +kernel
theorem dX5_fits_17 : decode cX5_fits 17 = .ok (.aload_n 0, 1) := by decide +kernel
theorem dX5_fits_18 : decode cX5_fits 18 = .ok (.iload_n 2, 1) := by decide +kernel
theorem dX5_fits_19 : decode cX5_fits 19 = .ok (.invokevirtual 96, 3) := by decide +kernel
theorem dX5_fits_22 : decode cX5_fits 22 = .ok (.ifCond .ne 9, 3) := by decide +kernel
theorem dX5_fits_25 : decode cX5_fits 25 = .ok (.aload_n 0, 1) := by decide +kernel
theorem dX5_fits_26 : decode cX5_fits 26 = .ok (.iconst 0, 1) := by decide +kernel
theorem dX5_fits_27 : decode cX5_fits 27 = .ok (.invokevirtual 61, 3) := by decide +kernel
theorem dX5_fits_30 : decode cX5_fits 30 = .ok (.ireturn, 1) := by decide +kernel
theorem dX5_fits_31 : decode cX5_fits 31 = .ok (.iconst 0, 1) := by decide +kernel
theorem dX5_fits_32 : decode cX5_fits 32 = .ok (.istore 4, 2) := by decide +kernel
theorem dX5_fits_34 : decode cX5_fits 34 = .ok (.iconst 0, 1) := by decide +kernel
theorem dX5_fits_35 : decode cX5_fits 35 = .ok (.istore 5, 2) := by decide +kernel
theorem dX5_fits_37 : decode cX5_fits 37 = .ok (.iload 5, 2) := by decide +kernel
theorem dX5_fits_39 : decode cX5_fits 39 = .ok (.bipush 16, 2) := by decide +kernel
theorem dX5_fits_41 : decode cX5_fits 41 = .ok (.if_icmp .ge 56, 3) := by decide +kernel
theorem dX5_fits_44 : decode cX5_fits 44 = .ok (.aload_n 0, 1) := by decide +kernel
theorem dX5_fits_45 : decode cX5_fits 45 = .ok (.iload_n 2, 1) := by decide +kernel
theorem dX5_fits_46 : decode cX5_fits 46 = .ok (.iload 5, 2) := by decide +kernel
theorem dX5_fits_48 : decode cX5_fits 48 = .ok (.invokevirtual 204, 3) := by decide +kernel
theorem dX5_fits_51 : decode cX5_fits 51 = .ok (.aload_n 0, 1) := by decide +kernel
theorem dX5_fits_52 : decode cX5_fits 52 = .ok (.getfield 19, 3) := by decide +kernel
theorem dX5_fits_55 : decode cX5_fits 55 = .ok (.invokevirtual 166, 3) := by decide +kernel
theorem dX5_fits_58 : decode cX5_fits 58 = .ok (.aload_n 0, 1) := by decide +kernel
theorem dX5_fits_59 : decode cX5_fits 59 = .ok (.getfield 38, 3) := by decide +kernel
theorem dX5_fits_62 : decode cX5_fits 62 = .ok (.iload_n 1, 1) := by decide +kernel
theorem dX5_fits_63 : decode cX5_fits 63 = .ok (.aaload, 1) := by decide +kernel
theorem dX5_fits_64 : decode cX5_fits 64 = .ok (.aload_n 0, 1) := by decide +kernel
theorem dX5_fits_65 : decode cX5_fits 65 = .ok (.getfield 19, 3) := by decide +kernel
theorem dX5_fits_68 : decode cX5_fits 68 = .ok (.getfield 99, 3) := by decide +kernel
theorem dX5_fits_71 : decode cX5_fits 71 = .ok (.iload_n 2, 1) := by decide +kernel
theorem dX5_fits_72 : decode cX5_fits 72 = .ok (.aaload, 1) := by decide +kernel
theorem dX5_fits_73 : decode cX5_fits 73 = .ok (.getfield 163, 3) := by decide +kernel
theorem dX5_fits_76 : decode cX5_fits 76 = .ok (.invokevirtual 213, 3) := by decide +kernel
theorem dX5_fits_79 : decode cX5_fits 79 = .ok (.ifCond .eq 12, 3) := by decide +kernel
theorem dX5_fits_82 : decode cX5_fits 82 = .ok (.iload 4, 2) := by decide +kernel
theorem dX5_fits_84 : decode cX5_fits 84 = .ok (.iconst 1, 1) := by decide +kernel
theorem dX5_fits_85 : decode cX5_fits 85 = .ok (.iload 5, 2) := by decide +kernel
theorem dX5_fits_87 : decode cX5_fits 87 = .ok (.ishl, 1) := by decide +kernel
theorem dX5_fits_88 : decode cX5_fits 88 = .ok (.ior, 1) := by decide +kernel
theorem dX5_fits_89 : decode cX5_fits 89 = .ok (.istore 4, 2) := by decide +kernel
theorem dX5_fits_91 : decode cX5_fits 91 = .ok (.iinc 5 1, 3) := by decide +kernel
theorem dX5_fits_94 : decode cX5_fits 94 = .ok (.goto (-57), 3) := by decide +kernel
theorem dX5_fits_97 : decode cX5_fits 97 = .ok (.iload 4, 2) := by decide +kernel
theorem dX5_fits_99 : decode cX5_fits 99 = .ok (.ireturn, 1) := by decide +kernel
theorem dX5_kinds_0 : decode cX5_kinds 0 = .ok (.aload_n 0, 1) := by decide +kernel
theorem dX5_kinds_1 : decode cX5_kinds 1 = .ok (.iload_n 1, 1) := by decide +kernel
theorem dX5_kinds_2 : decode cX5_kinds 2 = .ok (.invokevirtual 210, 3) := by decide +kernel
theorem dX5_kinds_5 : decode cX5_kinds 5 = .ok (.istore_n 3, 1) := by decide +kernel
theorem dX5_kinds_6 : decode cX5_kinds 6 = .ok (.iload_n 3, 1) := by decide +kernel
theorem dX5_kinds_7 : decode cX5_kinds 7 = .ok (.iconst (-1), 1) := by decide +kernel
theorem dX5_kinds_8 : decode cX5_kinds 8 = .ok (.if_icmp .eq 9, 3) := by decide +kernel
theorem dX5_kinds_11 : decode cX5_kinds 11 = .ok (.aload_n 0, 1) := by decide +kernel
theorem dX5_kinds_12 : decode cX5_kinds 12 = .ok (.iload_n 3, 1) := by decide +kernel
theorem dX5_kinds_13 : decode cX5_kinds 13 = .ok (.invokevirtual 61, 3) := by decide +kernel
theorem dX5_kinds_16 : decode cX5_kinds 16 = .ok (.ireturn, 1) := by decide +kernel
theorem dX5_kinds_17 : decode cX5_kinds 17 = .ok (.aload_n 0, 1) := by decide +kernel
theorem dX5_kinds_18 : decode cX5_kinds 18 = .ok (.iload_n 2, 1) := by decide +kernel
theorem dX5_kinds_19 : decode cX5_kinds 19 = .ok (.invokevirtual 96, 3) := by decide +kernel
theorem dX5_kinds_22 : decode cX5_kinds 22 = .ok (.ifCond .ne 9, 3) := by decide +kernel
theorem dX5_kinds_25 : decode cX5_kinds 25 = .ok (.aload_n 0, 1) := by decide +kernel
theorem dX5_kinds_26 : decode cX5_kinds 26 = .ok (.iconst 0, 1) := by decide +kernel
theorem dX5_kinds_27 : decode cX5_kinds 27 = .ok (.invokevirtual 61, 3) := by decide +kernel
theorem dX5_kinds_30 : decode cX5_kinds 30 = .ok (.ireturn, 1) := by decide +kernel
theorem dX5_kinds_31 : decode cX5_kinds 31 = .ok (.iconst 0, 1) := by decide +kernel
theorem dX5_kinds_32 : decode cX5_kinds 32 = .ok (.istore 4, 2) := by decide +kernel
theorem dX5_kinds_34 : decode cX5_kinds 34 = .ok (.iconst 0, 1) := by decide +kernel
theorem dX5_kinds_35 : decode cX5_kinds 35 = .ok (.istore 5, 2) := by decide +kernel
theorem dX5_kinds_37 : decode cX5_kinds 37 = .ok (.iload 5, 2) := by decide +kernel
theorem dX5_kinds_39 : decode cX5_kinds 39 = .ok (.bipush 7, 2) := by decide +kernel
theorem dX5_kinds_41 : decode cX5_kinds 41 = .ok (.if_icmp .ge 74, 3) := by decide +kernel
theorem dX5_kinds_44 : decode cX5_kinds 44 = .ok (.aload_n 0, 1) := by decide +kernel
theorem dX5_kinds_45 : decode cX5_kinds 45 = .ok (.getfield 19, 3) := by decide +kernel
theorem dX5_kinds_48 : decode cX5_kinds 48 = .ok (.aload_n 0, 1) := by decide +kernel
theorem dX5_kinds_49 : decode cX5_kinds 49 = .ok (.getfield 10, 3) := by decide +kernel
theorem dX5_kinds_52 : decode cX5_kinds 52 = .ok (.invokevirtual 159, 3) := by decide +kernel
theorem dX5_kinds_55 : decode cX5_kinds 55 = .ok (.aload_n 0, 1) := by decide +kernel
theorem dX5_kinds_56 : decode cX5_kinds 56 = .ok (.getfield 19, 3) := by decide +kernel
theorem dX5_kinds_59 : decode cX5_kinds 59 = .ok (.getfield 99, 3) := by decide +kernel
theorem dX5_kinds_62 : decode cX5_kinds 62 = .ok (.iload_n 2, 1) := by decide +kernel
theorem dX5_kinds_63 : decode cX5_kinds 63 = .ok (.aaload, 1) := by decide +kernel
theorem dX5_kinds_64 : decode cX5_kinds 64 = .ok (.iload 5, 2) := by decide +kernel
theorem dX5_kinds_66 : decode cX5_kinds 66 = .ok (.putfield 197, 3) := by decide +kernel
theorem dX5_kinds_69 : decode cX5_kinds 69 = .ok (.aload_n 0, 1) := by decide +kernel
theorem dX5_kinds_70 : decode cX5_kinds 70 = .ok (.getfield 19, 3) := by decide +kernel
theorem dX5_kinds_73 : decode cX5_kinds 73 = .ok (.invokevirtual 166, 3) := by decide +kernel
theorem dX5_kinds_76 : decode cX5_kinds 76 = .ok (.aload_n 0, 1) := by decide +kernel
theorem dX5_kinds_77 : decode cX5_kinds 77 = .ok (.getfield 38, 3) := by decide +kernel
theorem dX5_kinds_80 : decode cX5_kinds 80 = .ok (.iload_n 1, 1) := by decide +kernel
theorem dX5_kinds_81 : decode cX5_kinds 81 = .ok (.aaload, 1) := by decide +kernel
theorem dX5_kinds_82 : decode cX5_kinds 82 = .ok (.aload_n 0, 1) := by decide +kernel
theorem dX5_kinds_83 : decode cX5_kinds 83 = .ok (.getfield 19, 3) := by decide +kernel
theorem dX5_kinds_86 : decode cX5_kinds 86 = .ok (.getfield 99, 3) := by decide +kernel
theorem dX5_kinds_89 : decode cX5_kinds 89 = .ok (.iload_n 2, 1) := by decide +kernel
theorem dX5_kinds_90 : decode cX5_kinds 90 = .ok (.aaload, 1) := by decide +kernel
theorem dX5_kinds_91 : decode cX5_kinds 91 = .ok (.getfield 163, 3) := by decide +kernel
theorem dX5_kinds_94 : decode cX5_kinds 94 = .ok (.invokevirtual 213, 3) := by decide +kernel
theorem dX5_kinds_97 : decode cX5_kinds 97 = .ok (.ifCond .eq 12, 3) := by decide +kernel
theorem dX5_kinds_100 : decode cX5_kinds 100 = .ok (.iload 4, 2) := by decide +kernel
theorem dX5_kinds_102 : decode cX5_kinds 102 = .ok (.iconst 1, 1) := by decide +kernel
theorem dX5_kinds_103 : decode cX5_kinds 103 = .ok (.iload 5, 2) := by decide +kernel
theorem dX5_kinds_105 : decode cX5_kinds 105 = .ok (.ishl, 1) := by decide +kernel
theorem dX5_kinds_106 : decode cX5_kinds 106 = .ok (.ior, 1) := by decide +kernel
theorem dX5_kinds_107 : decode cX5_kinds 107 = .ok (.istore 4, 2) := by decide +kernel
theorem dX5_kinds_109 : decode cX5_kinds 109 = .ok (.iinc 5 1, 3) := by decide +kernel
theorem dX5_kinds_112 : decode cX5_kinds 112 = .ok (.goto (-75), 3) := by decide +kernel
theorem dX5_kinds_115 : decode cX5_kinds 115 = .ok (.iload 4, 2) := by decide +kernel
theorem dX5_kinds_117 : decode cX5_kinds 117 = .ok (.ireturn, 1) := by decide +kernel
theorem dX5_nomads_0 : decode cX5_nomads 0 = .ok (.iload_n 1, 1) := by decide +kernel
theorem dX5_nomads_1 : decode cX5_nomads 1 = .ok (.iconst 1, 1) := by decide +kernel
theorem dX5_nomads_2 : decode cX5_nomads 2 = .ok (.bipush 20, 2) := by decide +kernel
theorem dX5_nomads_4 : decode cX5_nomads 4 = .ok (.invokestatic 68, 3) := by decide +kernel
theorem dX5_nomads_7 : decode cX5_nomads 7 = .ok (.ifCond .ne 9, 3) := by decide +kernel
theorem dX5_nomads_10 : decode cX5_nomads 10 = .ok (.aload_n 0, 1) := by decide +kernel
theorem dX5_nomads_11 : decode cX5_nomads 11 = .ok (.iconst 0, 1) := by decide +kernel
theorem dX5_nomads_12 : decode cX5_nomads 12 = .ok (.invokevirtual 61, 3) := by decide +kernel
theorem dX5_nomads_15 : decode cX5_nomads 15 = .ok (.ireturn, 1) := by decide +kernel
theorem dX5_nomads_16 : decode cX5_nomads 16 = .ok (.aload_n 0, 1) := by decide +kernel
theorem dX5_nomads_17 : decode cX5_nomads 17 = .ok (.getfield 10, 3) := by decide +kernel
theorem dX5_nomads_20 : decode cX5_nomads 20 = .ok (.getfield 119, 3) := by decide +kernel
theorem dX5_nomads_23 : decode cX5_nomads 23 = .ok (.iload_n 1, 1) := by decide +kernel
theorem dX5_nomads_24 : decode cX5_nomads 24 = .ok (.iadd, 1) := by decide +kernel
theorem dX5_nomads_25 : decode cX5_nomads 25 = .ok (.ldc 122, 2) := by decide +kernel
theorem dX5_nomads_27 : decode cX5_nomads 27 = .ok (.if_icmp .le 9, 3) := by decide +kernel
theorem dX5_nomads_30 : decode cX5_nomads 30 = .ok (.aload_n 0, 1) := by decide +kernel
theorem dX5_nomads_31 : decode cX5_nomads 31 = .ok (.iconst 4, 1) := by decide +kernel
theorem dX5_nomads_32 : decode cX5_nomads 32 = .ok (.invokevirtual 61, 3) := by decide +kernel
theorem dX5_nomads_35 : decode cX5_nomads 35 = .ok (.ireturn, 1) := by decide +kernel
theorem dX5_nomads_36 : decode cX5_nomads 36 = .ok (.iconst 0, 1) := by decide +kernel
theorem dX5_nomads_37 : decode cX5_nomads 37 = .ok (.istore_n 2, 1) := by decide +kernel
theorem dX5_nomads_38 : decode cX5_nomads 38 = .ok (.iload_n 2, 1) := by decide +kernel
theorem dX5_nomads_39 : decode cX5_nomads 39 = .ok (.iload_n 1, 1) := by decide +kernel
theorem dX5_nomads_40 : decode cX5_nomads 40 = .ok (.if_icmp .ge 61, 3) := by decide +kernel
theorem dX5_nomads_43 : decode cX5_nomads 43 = .ok (.aload_n 0, 1) := by decide +kernel
theorem dX5_nomads_44 : decode cX5_nomads 44 = .ok (.getfield 10, 3) := by decide +kernel
theorem dX5_nomads_47 : decode cX5_nomads 47 = .ok (.invokevirtual 216, 3) := by decide +kernel
theorem dX5_nomads_50 : decode cX5_nomads 50 = .ok (.bipush 8, 2) := by decide +kernel
theorem dX5_nomads_52 : decode cX5_nomads 52 = .ok (.irem, 1) := by decide +kernel
theorem dX5_nomads_53 : decode cX5_nomads 53 = .ok (.istore_n 3, 1) := by decide +kernel
theorem dX5_nomads_54 : decode cX5_nomads 54 = .ok (.aload_n 0, 1) := by decide +kernel
theorem dX5_nomads_55 : decode cX5_nomads 55 = .ok (.getfield 10, 3) := by decide +kernel
theorem dX5_nomads_58 : decode cX5_nomads 58 = .ok (.invokevirtual 216, 3) := by decide +kernel
theorem dX5_nomads_61 : decode cX5_nomads 61 = .ok (.bipush 16, 2) := by decide +kernel
theorem dX5_nomads_63 : decode cX5_nomads 63 = .ok (.irem, 1) := by decide +kernel
theorem dX5_nomads_64 : decode cX5_nomads 64 = .ok (.istore 4, 2) := by decide +kernel
theorem dX5_nomads_66 : decode cX5_nomads 66 = .ok (.aload_n 0, 1) := by decide +kernel
theorem dX5_nomads_67 : decode cX5_nomads 67 = .ok (.iload_n 3, 1) := by decide +kernel
theorem dX5_nomads_68 : decode cX5_nomads 68 = .ok (.invokevirtual 96, 3) := by decide +kernel
theorem dX5_nomads_71 : decode cX5_nomads 71 = .ok (.ifCond .eq 17, 3) := by decide +kernel
theorem dX5_nomads_74 : decode cX5_nomads 74 = .ok (.aload_n 0, 1) := by decide +kernel
theorem dX5_nomads_75 : decode cX5_nomads 75 = .ok (.getfield 10, 3) := by decide +kernel
theorem dX5_nomads_78 : decode cX5_nomads 78 = .ok (.getfield 99, 3) := by decide +kernel
theorem dX5_nomads_81 : decode cX5_nomads 81 = .ok (.iload_n 3, 1) := by decide +kernel
theorem dX5_nomads_82 : decode cX5_nomads 82 = .ok (.aaload, 1) := by decide +kernel
theorem dX5_nomads_83 : decode cX5_nomads 83 = .ok (.iload 4, 2) := by decide +kernel
theorem dX5_nomads_85 : decode cX5_nomads 85 = .ok (.putfield 194, 3) := by decide +kernel
theorem dX5_nomads_88 : decode cX5_nomads 88 = .ok (.aload_n 0, 1) := by decide +kernel
theorem dX5_nomads_89 : decode cX5_nomads 89 = .ok (.getfield 10, 3) := by decide +kernel
theorem dX5_nomads_92 : decode cX5_nomads 92 = .ok (.invokevirtual 166, 3) := by decide +kernel
theorem dX5_nomads_95 : decode cX5_nomads 95 = .ok (.iinc 2 1, 3) := by decide +kernel
theorem dX5_nomads_98 : decode cX5_nomads 98 = .ok (.goto (-60), 3) := by decide +kernel
theorem dX5_nomads_101 : decode cX5_nomads 101 = .ok (.aload_n 0, 1) := by decide +kernel
theorem dX5_nomads_102 : decode cX5_nomads 102 = .ok (.getfield 10, 3) := by decide +kernel
theorem dX5_nomads_105 : decode cX5_nomads 105 = .ok (.invokevirtual 126, 3) := by decide +kernel
theorem dX5_nomads_108 : decode cX5_nomads 108 = .ok (.ireturn, 1) := by decide +kernel
theorem dX5_odds_0 : decode cX5_odds 0 = .ok (.iload_n 1, 1) := by decide +kernel
theorem dX5_odds_1 : decode cX5_odds 1 = .ok (.iconst 0, 1) := by decide +kernel
theorem dX5_odds_2 : decode cX5_odds 2 = .ok (.bipush 15, 2) := by decide +kernel
theorem dX5_odds_4 : decode cX5_odds 4 = .ok (.invokestatic 68, 3) := by decide +kernel
theorem dX5_odds_7 : decode cX5_odds 7 = .ok (.ifCond .eq 12, 3) := by decide +kernel
theorem dX5_odds_10 : decode cX5_odds 10 = .ok (.iload_n 2, 1) := by decide +kernel
theorem dX5_odds_11 : decode cX5_odds 11 = .ok (.iconst 0, 1) := by decide +kernel
theorem dX5_odds_12 : decode cX5_odds 12 = .ok (.iconst 1, 1) := by decide +kernel
theorem dX5_odds_13 : decode cX5_odds 13 = .ok (.invokestatic 68, 3) := by decide +kernel
theorem dX5_odds_16 : decode cX5_odds 16 = .ok (.ifCond .ne 10, 3) := by decide +kernel
theorem dX5_odds_19 : decode cX5_odds 19 = .ok (.aload_n 0, 1) := by decide +kernel
theorem dX5_odds_20 : decode cX5_odds 20 = .ok (.iconst 0, 1) := by decide +kernel
theorem dX5_odds_21 : decode cX5_odds 21 = .ok (.invokevirtual 61, 3) := by decide +kernel
theorem dX5_odds_24 : decode cX5_odds 24 = .ok (.i2l, 1) := by decide +kernel
theorem dX5_odds_25 : decode cX5_odds 25 = .ok (.lreturn, 1) := by decide +kernel
theorem dX5_odds_26 : decode cX5_odds 26 = .ok (.aload_n 0, 1) := by decide +kernel
theorem dX5_odds_27 : decode cX5_odds 27 = .ok (.getfield 10, 3) := by decide +kernel
theorem dX5_odds_30 : decode cX5_odds 30 = .ok (.invokevirtual 219, 3) := by decide +kernel
theorem dX5_odds_33 : decode cX5_odds 33 = .ok (.i2l, 1) := by decide +kernel
theorem dX5_odds_34 : decode cX5_odds 34 = .ok (.lstore_n 3, 1) := by decide +kernel
theorem dX5_odds_35 : decode cX5_odds 35 = .ok (.ldc2_w 222, 3) := by decide +kernel
theorem dX5_odds_38 : decode cX5_odds 38 = .ok (.lstore 5, 2) := by decide +kernel
theorem dX5_odds_40 : decode cX5_odds 40 = .ok (.iconst 0, 1) := by decide +kernel
theorem dX5_odds_41 : decode cX5_odds 41 = .ok (.istore 7, 2) := by decide +kernel
theorem dX5_odds_43 : decode cX5_odds 43 = .ok (.iload 7, 2) := by decide +kernel
theorem dX5_odds_45 : decode cX5_odds 45 = .ok (.iconst 4, 1) := by decide +kernel
theorem dX5_odds_46 : decode cX5_odds 46 = .ok (.if_icmp .ge 33, 3) := by decide +kernel
theorem dX5_odds_49 : decode cX5_odds 49 = .ok (.lload_n 3, 1) := by decide +kernel
theorem dX5_odds_50 : decode cX5_odds 50 = .ok (.ldc2_w 224, 3) := by decide +kernel
theorem dX5_odds_53 : decode cX5_odds 53 = .ok (.lrem, 1) := by decide +kernel
theorem dX5_odds_54 : decode cX5_odds 54 = .ok (.lconst 0, 1) := by decide +kernel
theorem dX5_odds_55 : decode cX5_odds 55 = .ok (.lcmp, 1) := by decide +kernel
theorem dX5_odds_56 : decode cX5_odds 56 = .ok (.ifCond .ne 23, 3) := by decide +kernel
theorem dX5_odds_59 : decode cX5_odds 59 = .ok (.lload_n 3, 1) := by decide +kernel
theorem dX5_odds_60 : decode cX5_odds 60 = .ok (.ldc2_w 224, 3) := by decide +kernel
theorem dX5_odds_63 : decode cX5_odds 63 = .ok (.ldiv, 1) := by decide +kernel
theorem dX5_odds_64 : decode cX5_odds 64 = .ok (.lstore_n 3, 1) := by decide +kernel
theorem dX5_odds_65 : decode cX5_odds 65 = .ok (.lload 5, 2) := by decide +kernel
theorem dX5_odds_67 : decode cX5_odds 67 = .ok (.ldc2_w 224, 3) := by decide +kernel
theorem dX5_odds_70 : decode cX5_odds 70 = .ok (.ldiv, 1) := by decide +kernel
theorem dX5_odds_71 : decode cX5_odds 71 = .ok (.lstore 5, 2) := by decide +kernel
theorem dX5_odds_73 : decode cX5_odds 73 = .ok (.iinc 7 1, 3) := by decide +kernel
theorem dX5_odds_76 : decode cX5_odds 76 = .ok (.goto (-33), 3) := by decide +kernel
theorem dX5_odds_79 : decode cX5_odds 79 = .ok (.iload_n 2, 1) := by decide +kernel
theorem dX5_odds_80 : decode cX5_odds 80 = .ok (.ifCond .ne 7, 3) := by decide +kernel
theorem dX5_odds_83 : decode cX5_odds 83 = .ok (.lload_n 3, 1) := by decide +kernel
theorem dX5_odds_84 : decode cX5_odds 84 = .ok (.goto 5, 3) := by decide +kernel
theorem dX5_odds_87 : decode cX5_odds 87 = .ok (.lload 5, 2) := by decide +kernel
theorem dX5_odds_89 : decode cX5_odds 89 = .ok (.iload_n 1, 1) := by decide +kernel
theorem dX5_odds_90 : decode cX5_odds 90 = .ok (.invokestatic 226, 3) := by decide +kernel
theorem dX5_odds_93 : decode cX5_odds 93 = .ok (.lreturn, 1) := by decide +kernel
theorem dX5_seed_0 : decode cX5_seed 0 = .ok (.aload_n 0, 1) := by decide +kernel
theorem dX5_seed_1 : decode cX5_seed 1 = .ok (.getfield 10, 3) := by decide +kernel
theorem dX5_seed_4 : decode cX5_seed 4 = .ok (.getfield 230, 3) := by decide +kernel
theorem dX5_seed_7 : decode cX5_seed 7 = .ok (.istore_n 2, 1) := by decide +kernel
theorem dX5_seed_8 : decode cX5_seed 8 = .ok (.aload_n 0, 1) := by decide +kernel
theorem dX5_seed_9 : decode cX5_seed 9 = .ok (.getfield 10, 3) := by decide +kernel
theorem dX5_seed_12 : decode cX5_seed 12 = .ok (.iload_n 1, 1) := by decide +kernel
theorem dX5_seed_13 : decode cX5_seed 13 = .ok (.putfield 230, 3) := by decide +kernel
theorem dX5_seed_16 : decode cX5_seed 16 = .ok (.iload_n 2, 1) := by decide +kernel
theorem dX5_seed_17 : decode cX5_seed 17 = .ok (.ireturn, 1) := by decide +kernel
theorem dX5_feed_0 : decode cX5_feed 0 = .ok (.iload_n 2, 1) := by decide +kernel
theorem dX5_feed_1 : decode cX5_feed 1 = .ok (.iconst 1, 1) := by decide +kernel
theorem dX5_feed_2 : decode cX5_feed 2 = .ok (.iconst 4, 1) := by decide +kernel
theorem dX5_feed_3 : decode cX5_feed 3 = .ok (.invokestatic 68, 3) := by decide +kernel
theorem dX5_feed_6 : decode cX5_feed 6 = .ok (.ifCond .ne 9, 3) := by decide +kernel
theorem dX5_feed_9 : decode cX5_feed 9 = .ok (.aload_n 0, 1) := by decide +kernel
theorem dX5_feed_10 : decode cX5_feed 10 = .ok (.iconst 0, 1) := by decide +kernel
theorem dX5_feed_11 : decode cX5_feed 11 = .ok (.invokevirtual 61, 3) := by decide +kernel
theorem dX5_feed_14 : decode cX5_feed 14 = .ok (.ireturn, 1) := by decide +kernel
theorem dX5_feed_15 : decode cX5_feed 15 = .ok (.aload_n 0, 1) := by decide +kernel
theorem dX5_feed_16 : decode cX5_feed 16 = .ok (.getfield 32, 3) := by decide +kernel
theorem dX5_feed_19 : decode cX5_feed 19 = .ok (.getfield 233, 3) := by decide +kernel
theorem dX5_feed_22 : decode cX5_feed 22 = .ok (.iload_n 2, 1) := by decide +kernel
theorem dX5_feed_23 : decode cX5_feed 23 = .ok (.iadd, 1) := by decide +kernel
theorem dX5_feed_24 : decode cX5_feed 24 = .ok (.bipush 120, 2) := by decide +kernel
theorem dX5_feed_26 : decode cX5_feed 26 = .ok (.if_icmp .le 9, 3) := by decide +kernel
theorem dX5_feed_29 : decode cX5_feed 29 = .ok (.aload_n 0, 1) := by decide +kernel
theorem dX5_feed_30 : decode cX5_feed 30 = .ok (.iconst 1, 1) := by decide +kernel
theorem dX5_feed_31 : decode cX5_feed 31 = .ok (.invokevirtual 61, 3) := by decide +kernel
theorem dX5_feed_34 : decode cX5_feed 34 = .ok (.ireturn, 1) := by decide +kernel
theorem dX5_feed_35 : decode cX5_feed 35 = .ok (.iload_n 2, 1) := by decide +kernel
theorem dX5_feed_36 : decode cX5_feed 36 = .ok (.iconst 1, 1) := by decide +kernel
theorem dX5_feed_37 : decode cX5_feed 37 = .ok (.isub, 1) := by decide +kernel
theorem dX5_feed_38 : decode cX5_feed 38 = .ok (.istore_n 3, 1) := by decide +kernel
theorem dX5_feed_39 : decode cX5_feed 39 = .ok (.iload_n 3, 1) := by decide +kernel
theorem dX5_feed_40 : decode cX5_feed 40 = .ok (.ifCond .lt 26, 3) := by decide +kernel
theorem dX5_feed_43 : decode cX5_feed 43 = .ok (.aload_n 0, 1) := by decide +kernel
theorem dX5_feed_44 : decode cX5_feed 44 = .ok (.getfield 32, 3) := by decide +kernel
theorem dX5_feed_47 : decode cX5_feed 47 = .ok (.iload_n 1, 1) := by decide +kernel
theorem dX5_feed_48 : decode cX5_feed 48 = .ok (.bipush 8, 2) := by decide +kernel
theorem dX5_feed_50 : decode cX5_feed 50 = .ok (.iload_n 3, 1) := by decide +kernel
theorem dX5_feed_51 : decode cX5_feed 51 = .ok (.imul, 1) := by decide +kernel
theorem dX5_feed_52 : decode cX5_feed 52 = .ok (.iushr, 1) := by decide +kernel
theorem dX5_feed_53 : decode cX5_feed 53 = .ok (.sipush 255, 3) := by decide +kernel
theorem dX5_feed_56 : decode cX5_feed 56 = .ok (.iand, 1) := by decide +kernel
theorem dX5_feed_57 : decode cX5_feed 57 = .ok (.invokevirtual 236, 3) := by decide +kernel
theorem dX5_feed_60 : decode cX5_feed 60 = .ok (.iinc 3 (-1), 3) := by decide +kernel
theorem dX5_feed_63 : decode cX5_feed 63 = .ok (.goto (-24), 3) := by decide +kernel
theorem dX5_feed_66 : decode cX5_feed 66 = .ok (.aload_n 0, 1) := by decide +kernel
theorem dX5_feed_67 : decode cX5_feed 67 = .ok (.getfield 32, 3) := by decide +kernel
theorem dX5_feed_70 : decode cX5_feed 70 = .ok (.getfield 233, 3) := by decide +kernel
theorem dX5_feed_73 : decode cX5_feed 73 = .ok (.ireturn, 1) := by decide +kernel
theorem dX5_wipe_0 : decode cX5_wipe 0 = .ok (.aload_n 0, 1) := by decide +kernel
theorem dX5_wipe_1 : decode cX5_wipe 1 = .ok (.getfield 32, 3) := by decide +kernel
theorem dX5_wipe_4 : decode cX5_wipe 4 = .ok (.getfield 233, 3) := by decide +kernel
theorem dX5_wipe_7 : decode cX5_wipe 7 = .ok (.istore_n 1, 1) := by decide +kernel
theorem dX5_wipe_8 : decode cX5_wipe 8 = .ok (.aload_n 0, 1) := by decide +kernel
theorem dX5_wipe_9 : decode cX5_wipe 9 = .ok (.getfield 32, 3) := by decide +kernel
theorem dX5_wipe_12 : decode cX5_wipe 12 = .ok (.iconst 0, 1) := by decide +kernel
theorem dX5_wipe_13 : decode cX5_wipe 13 = .ok (.putfield 233, 3) := by decide +kernel
theorem dX5_wipe_16 : decode cX5_wipe 16 = .ok (.iload_n 1, 1) := by decide +kernel
theorem dX5_wipe_17 : decode cX5_wipe 17 = .ok (.ireturn, 1) := by decide +kernel
theorem dX5_text_0 : decode cX5_text 0 = .ok (.aload_n 0, 1) := by decide +kernel
theorem dX5_text_1 : decode cX5_text 1 = .ok (.getfield 19, 3) := by decide +kernel
theorem dX5_text_4 : decode cX5_text 4 = .ok (.aload_n 0, 1) := by decide +kernel
theorem dX5_text_5 : decode cX5_text 5 = .ok (.getfield 10, 3) := by decide +kernel
theorem dX5_text_8 : decode cX5_text 8 = .ok (.invokevirtual 159, 3) := by decide +kernel
theorem dX5_text_11 : decode cX5_text 11 = .ok (.aload_n 0, 1) := by decide +kernel
theorem dX5_text_12 : decode cX5_text 12 = .ok (.getfield 32, 3) := by decide +kernel
theorem dX5_text_15 : decode cX5_text 15 = .ok (.aload_n 0, 1) := by decide +kernel
theorem dX5_text_16 : decode cX5_text 16 = .ok (.getfield 19, 3) := by decide +kernel
theorem dX5_text_19 : decode cX5_text 19 = .ok (.invokevirtual 239, 3) := by decide +kernel
theorem dX5_text_22 : decode cX5_text 22 = .ok (.istore_n 1, 1) := by decide +kernel
theorem dX5_text_23 : decode cX5_text 23 = .ok (.aload_n 0, 1) := by decide +kernel
theorem dX5_text_24 : decode cX5_text 24 = .ok (.getfield 32, 3) := by decide +kernel
theorem dX5_text_27 : decode cX5_text 27 = .ok (.iconst 0, 1) := by decide +kernel
theorem dX5_text_28 : decode cX5_text 28 = .ok (.putfield 233, 3) := by decide +kernel
theorem dX5_text_31 : decode cX5_text 31 = .ok (.iload_n 1, 1) := by decide +kernel
theorem dX5_text_32 : decode cX5_text 32 = .ok (.ifCond .lt 14, 3) := by decide +kernel
theorem dX5_text_35 : decode cX5_text 35 = .ok (.aload_n 0, 1) := by decide +kernel
theorem dX5_text_36 : decode cX5_text 36 = .ok (.getfield 10, 3) := by decide +kernel
theorem dX5_text_39 : decode cX5_text 39 = .ok (.aload_n 0, 1) := by decide +kernel
theorem dX5_text_40 : decode cX5_text 40 = .ok (.getfield 19, 3) := by decide +kernel
theorem dX5_text_43 : decode cX5_text 43 = .ok (.invokevirtual 159, 3) := by decide +kernel
theorem dX5_text_46 : decode cX5_text 46 = .ok (.iload_n 1, 1) := by decide +kernel
theorem dX5_text_47 : decode cX5_text 47 = .ok (.ireturn, 1) := by decide +kernel
theorem dX5_hold_0 : decode cX5_hold 0 = .ok (.iload_n 1, 1) := by decide +kernel
theorem dX5_hold_1 : decode cX5_hold 1 = .ok (.iconst 0, 1) := by decide +kernel
theorem dX5_hold_2 : decode cX5_hold 2 = .ok (.bipush 9, 2) := by decide +kernel
theorem dX5_hold_4 : decode cX5_hold 4 = .ok (.invokestatic 68, 3) := by decide +kernel
theorem dX5_hold_7 : decode cX5_hold 7 = .ok (.ifCond .eq 16, 3) := by decide +kernel
theorem dX5_hold_10 : decode cX5_hold 10 = .ok (.iload_n 2, 1) := by decide +kernel
theorem dX5_hold_11 : decode cX5_hold 11 = .ok (.iconst (-1), 1) := by decide +kernel
theorem dX5_hold_12 : decode cX5_hold 12 = .ok (.if_icmp .eq 17, 3) := by decide +kernel
theorem dX5_hold_15 : decode cX5_hold 15 = .ok (.aload_n 0, 1) := by decide +kernel
theorem dX5_hold_16 : decode cX5_hold 16 = .ok (.iload_n 2, 1) := by decide +kernel
theorem dX5_hold_17 : decode cX5_hold 17 = .ok (.invokevirtual 96, 3) := by decide +kernel
theorem dX5_hold_20 : decode cX5_hold 20 = .ok (.ifCond .ne 9, 3) := by decide +kernel
theorem dX5_hold_23 : decode cX5_hold 23 = .ok (.aload_n 0, 1) := by decide +kernel
theorem dX5_hold_24 : decode cX5_hold 24 = .ok (.iconst 0, 1) := by decide +kernel
theorem dX5_hold_25 : decode cX5_hold 25 = .ok (.invokevirtual 61, 3) := by decide +kernel
theorem dX5_hold_28 : decode cX5_hold 28 = .ok (.ireturn, 1) := by decide +kernel
theorem dX5_hold_29 : decode cX5_hold 29 = .ok (.aload_n 0, 1) := by decide +kernel
theorem dX5_hold_30 : decode cX5_hold 30 = .ok (.getfield 10, 3) := by decide +kernel
theorem dX5_hold_33 : decode cX5_hold 33 = .ok (.getfield 243, 3) := by decide +kernel
theorem dX5_hold_36 : decode cX5_hold 36 = .ok (.iload_n 1, 1) := by decide +kernel
theorem dX5_hold_37 : decode cX5_hold 37 = .ok (.iload_n 2, 1) := by decide +kernel
theorem dX5_hold_38 : decode cX5_hold 38 = .ok (.iastore, 1) := by decide +kernel
theorem dX5_hold_39 : decode cX5_hold 39 = .ok (.iconst 1, 1) := by decide +kernel
theorem dX5_hold_40 : decode cX5_hold 40 = .ok (.ireturn, 1) := by decide +kernel
theorem dX5_as_0 : decode cX5_as 0 = .ok (.iload_n 1, 1) := by decide +kernel
theorem dX5_as_1 : decode cX5_as 1 = .ok (.iconst 0, 1) := by decide +kernel
theorem dX5_as_2 : decode cX5_as 2 = .ok (.bipush 9, 2) := by decide +kernel
theorem dX5_as_4 : decode cX5_as 4 = .ok (.invokestatic 68, 3) := by decide +kernel
theorem dX5_as_7 : decode cX5_as 7 = .ok (.ifCond .eq 10, 3) := by decide +kernel
theorem dX5_as_10 : decode cX5_as 10 = .ok (.iload_n 2, 1) := by decide +kernel
theorem dX5_as_11 : decode cX5_as 11 = .ok (.invokestatic 85, 3) := by decide +kernel
theorem dX5_as_14 : decode cX5_as 14 = .ok (.ifCond .ne 9, 3) := by decide +kernel
theorem dX5_as_17 : decode cX5_as 17 = .ok (.aload_n 0, 1) := by decide +kernel
theorem dX5_as_18 : decode cX5_as 18 = .ok (.iconst 0, 1) := by decide +kernel
theorem dX5_as_19 : decode cX5_as 19 = .ok (.invokevirtual 61, 3) := by decide +kernel
theorem dX5_as_22 : decode cX5_as 22 = .ok (.ireturn, 1) := by decide +kernel
theorem dX5_as_23 : decode cX5_as 23 = .ok (.aload_n 0, 1) := by decide +kernel
theorem dX5_as_24 : decode cX5_as 24 = .ok (.getfield 10, 3) := by decide +kernel
theorem dX5_as_27 : decode cX5_as 27 = .ok (.getfield 243, 3) := by decide +kernel
theorem dX5_as_30 : decode cX5_as 30 = .ok (.iload_n 1, 1) := by decide +kernel
theorem dX5_as_31 : decode cX5_as 31 = .ok (.iaload, 1) := by decide +kernel
theorem dX5_as_32 : decode cX5_as 32 = .ok (.istore_n 3, 1) := by decide +kernel
theorem dX5_as_33 : decode cX5_as 33 = .ok (.aload_n 0, 1) := by decide +kernel
theorem dX5_as_34 : decode cX5_as 34 = .ok (.iload_n 3, 1) := by decide +kernel
theorem dX5_as_35 : decode cX5_as 35 = .ok (.invokevirtual 96, 3) := by decide +kernel
theorem dX5_as_38 : decode cX5_as 38 = .ok (.ifCond .ne 9, 3) := by decide +kernel
theorem dX5_as_41 : decode cX5_as 41 = .ok (.aload_n 0, 1) := by decide +kernel
theorem dX5_as_42 : decode cX5_as 42 = .ok (.iconst 5, 1) := by decide +kernel
theorem dX5_as_43 : decode cX5_as 43 = .ok (.invokevirtual 61, 3) := by decide +kernel
theorem dX5_as_46 : decode cX5_as 46 = .ok (.ireturn, 1) := by decide +kernel
theorem dX5_as_47 : decode cX5_as 47 = .ok (.aload_n 0, 1) := by decide +kernel
theorem dX5_as_48 : decode cX5_as 48 = .ok (.getfield 10, 3) := by decide +kernel
theorem dX5_as_51 : decode cX5_as 51 = .ok (.getfield 99, 3) := by decide +kernel
theorem dX5_as_54 : decode cX5_as 54 = .ok (.iload_n 3, 1) := by decide +kernel
theorem dX5_as_55 : decode cX5_as 55 = .ok (.aaload, 1) := by decide +kernel
theorem dX5_as_56 : decode cX5_as 56 = .ok (.getfield 197, 3) := by decide +kernel
theorem dX5_as_59 : decode cX5_as 59 = .ok (.iload_n 2, 1) := by decide +kernel
theorem dX5_as_60 : decode cX5_as 60 = .ok (.invokestatic 246, 3) := by decide +kernel
theorem dX5_as_63 : decode cX5_as 63 = .ok (.ifCond .ne 9, 3) := by decide +kernel
theorem dX5_as_66 : decode cX5_as 66 = .ok (.aload_n 0, 1) := by decide +kernel
theorem dX5_as_67 : decode cX5_as 67 = .ok (.iconst 2, 1) := by decide +kernel
theorem dX5_as_68 : decode cX5_as 68 = .ok (.invokevirtual 61, 3) := by decide +kernel
theorem dX5_as_71 : decode cX5_as 71 = .ok (.ireturn, 1) := by decide +kernel
theorem dX5_as_72 : decode cX5_as 72 = .ok (.iload_n 3, 1) := by decide +kernel
theorem dX5_as_73 : decode cX5_as 73 = .ok (.ireturn, 1) := by decide +kernel
theorem dX5_sheet_0 : decode cX5_sheet 0 = .ok (.iload_n 1, 1) := by decide +kernel
theorem dX5_sheet_1 : decode cX5_sheet 1 = .ok (.invokestatic 249, 3) := by decide +kernel
theorem dX5_sheet_4 : decode cX5_sheet 4 = .ok (.ifCond .eq 25, 3) := by decide +kernel
theorem dX5_sheet_7 : decode cX5_sheet 7 = .ok (.iload_n 2, 1) := by decide +kernel
theorem dX5_sheet_8 : decode cX5_sheet 8 = .ok (.ifCond .eq 27, 3) := by decide +kernel
theorem dX5_sheet_11 : decode cX5_sheet 11 = .ok (.iload_n 2, 1) := by decide +kernel
theorem dX5_sheet_12 : decode cX5_sheet 12 = .ok (.bipush 8, 2) := by decide +kernel
theorem dX5_sheet_14 : decode cX5_sheet 14 = .ok (.if_icmp .eq 21, 3) := by decide +kernel
theorem dX5_sheet_17 : decode cX5_sheet 17 = .ok (.iload_n 2, 1) := by decide +kernel
theorem dX5_sheet_18 : decode cX5_sheet 18 = .ok (.bipush 16, 2) := by decide +kernel
theorem dX5_sheet_20 : decode cX5_sheet 20 = .ok (.if_icmp .eq 15, 3) := by decide +kernel
theorem dX5_sheet_23 : decode cX5_sheet 23 = .ok (.iload_n 2, 1) := by decide +kernel
theorem dX5_sheet_24 : decode cX5_sheet 24 = .ok (.bipush 32, 2) := by decide +kernel
theorem dX5_sheet_26 : decode cX5_sheet 26 = .ok (.if_icmp .eq 9, 3) := by decide +kernel
theorem dX5_sheet_29 : decode cX5_sheet 29 = .ok (.aload_n 0, 1) := by decide +kernel
theorem dX5_sheet_30 : decode cX5_sheet 30 = .ok (.iconst 0, 1) := by decide +kernel
theorem dX5_sheet_31 : decode cX5_sheet 31 = .ok (.invokevirtual 61, 3) := by decide +kernel
theorem dX5_sheet_34 : decode cX5_sheet 34 = .ok (.ireturn, 1) := by decide +kernel
theorem dX5_sheet_35 : decode cX5_sheet 35 = .ok (.iload_n 3, 1) := by decide +kernel
theorem dX5_sheet_36 : decode cX5_sheet 36 = .ok (.ifCond .ge 10, 3) := by decide +kernel
theorem dX5_sheet_39 : decode cX5_sheet 39 = .ok (.aload_n 0, 1) := by decide +kernel
theorem dX5_sheet_40 : decode cX5_sheet 40 = .ok (.bipush 6, 2) := by decide +kernel
theorem dX5_sheet_42 : decode cX5_sheet 42 = .ok (.invokevirtual 61, 3) := by decide +kernel
theorem dX5_sheet_45 : decode cX5_sheet 45 = .ok (.ireturn, 1) := by decide +kernel
theorem dX5_sheet_46 : decode cX5_sheet 46 = .ok (.iload_n 3, 1) := by decide +kernel
theorem dX5_sheet_47 : decode cX5_sheet 47 = .ok (.bipush 40, 2) := by decide +kernel
theorem dX5_sheet_49 : decode cX5_sheet 49 = .ok (.if_icmp .le 9, 3) := by decide +kernel
theorem dX5_sheet_52 : decode cX5_sheet 52 = .ok (.aload_n 0, 1) := by decide +kernel
theorem dX5_sheet_53 : decode cX5_sheet 53 = .ok (.iconst 0, 1) := by decide +kernel
theorem dX5_sheet_54 : decode cX5_sheet 54 = .ok (.invokevirtual 61, 3) := by decide +kernel
theorem dX5_sheet_57 : decode cX5_sheet 57 = .ok (.ireturn, 1) := by decide +kernel
theorem dX5_sheet_58 : decode cX5_sheet 58 = .ok (.aload_n 0, 1) := by decide +kernel
theorem dX5_sheet_59 : decode cX5_sheet 59 = .ok (.getfield 38, 3) := by decide +kernel
theorem dX5_sheet_62 : decode cX5_sheet 62 = .ok (.iload_n 1, 1) := by decide +kernel
theorem dX5_sheet_63 : decode cX5_sheet 63 = .ok (.aaload, 1) := by decide +kernel
theorem dX5_sheet_64 : decode cX5_sheet 64 = .ok (.iload_n 2, 1) := by decide +kernel
theorem dX5_sheet_65 : decode cX5_sheet 65 = .ok (.iload_n 2, 1) := by decide +kernel
theorem dX5_sheet_66 : decode cX5_sheet 66 = .ok (.ifCond .ne 7, 3) := by decide +kernel
theorem dX5_sheet_69 : decode cX5_sheet 69 = .ok (.iconst 0, 1) := by decide +kernel
theorem dX5_sheet_70 : decode cX5_sheet 70 = .ok (.goto 4, 3) := by decide +kernel
theorem dX5_sheet_73 : decode cX5_sheet 73 = .ok (.iload_n 3, 1) := by decide +kernel
theorem dX5_sheet_74 : decode cX5_sheet 74 = .ok (.invokevirtual 252, 3) := by decide +kernel
theorem dX5_sheet_77 : decode cX5_sheet 77 = .ok (.aload_n 0, 1) := by decide +kernel
theorem dX5_sheet_78 : decode cX5_sheet 78 = .ok (.getfield 38, 3) := by decide +kernel
theorem dX5_sheet_81 : decode cX5_sheet 81 = .ok (.iload_n 1, 1) := by decide +kernel
theorem dX5_sheet_82 : decode cX5_sheet 82 = .ok (.aaload, 1) := by decide +kernel
theorem dX5_sheet_83 : decode cX5_sheet 83 = .ok (.getfield 255, 3) := by decide +kernel
theorem dX5_sheet_86 : decode cX5_sheet 86 = .ok (.ireturn, 1) := by decide +kernel
theorem dX5_write_0 : decode cX5_write 0 = .ok (.aload_n 0, 1) := by decide +kernel
theorem dX5_write_1 : decode cX5_write 1 = .ok (.iload_n 1, 1) := by decide +kernel
theorem dX5_write_2 : decode cX5_write 2 = .ok (.invokevirtual 210, 3) := by decide +kernel
theorem dX5_write_5 : decode cX5_write 5 = .ok (.istore 4, 2) := by decide +kernel
theorem dX5_write_7 : decode cX5_write 7 = .ok (.iload 4, 2) := by decide +kernel
theorem dX5_write_9 : decode cX5_write 9 = .ok (.iconst (-1), 1) := by decide +kernel
theorem dX5_write_10 : decode cX5_write 10 = .ok (.if_icmp .eq 10, 3) := by decide +kernel
theorem dX5_write_13 : decode cX5_write 13 = .ok (.aload_n 0, 1) := by decide +kernel
theorem dX5_write_14 : decode cX5_write 14 = .ok (.iload 4, 2) := by decide +kernel
theorem dX5_write_16 : decode cX5_write 16 = .ok (.invokevirtual 61, 3) := by decide +kernel
theorem dX5_write_19 : decode cX5_write 19 = .ok (.ireturn, 1) := by decide +kernel
theorem dX5_write_20 : decode cX5_write 20 = .ok (.iload_n 2, 1) := by decide +kernel
theorem dX5_write_21 : decode cX5_write 21 = .ok (.iconst 0, 1) := by decide +kernel
theorem dX5_write_22 : decode cX5_write 22 = .ok (.aload_n 0, 1) := by decide +kernel
theorem dX5_write_23 : decode cX5_write 23 = .ok (.getfield 38, 3) := by decide +kernel
theorem dX5_write_26 : decode cX5_write 26 = .ok (.iload_n 1, 1) := by decide +kernel
theorem dX5_write_27 : decode cX5_write 27 = .ok (.aaload, 1) := by decide +kernel
theorem dX5_write_28 : decode cX5_write 28 = .ok (.getfield 255, 3) := by decide +kernel
theorem dX5_write_31 : decode cX5_write 31 = .ok (.iconst 1, 1) := by decide +kernel
theorem dX5_write_32 : decode cX5_write 32 = .ok (.isub, 1) := by decide +kernel
theorem dX5_write_33 : decode cX5_write 33 = .ok (.invokestatic 68, 3) := by decide +kernel
theorem dX5_write_36 : decode cX5_write 36 = .ok (.ifCond .ne 9, 3) := by decide +kernel
theorem dX5_write_39 : decode cX5_write 39 = .ok (.aload_n 0, 1) := by decide +kernel
theorem dX5_write_40 : decode cX5_write 40 = .ok (.iconst 0, 1) := by decide +kernel
theorem dX5_write_41 : decode cX5_write 41 = .ok (.invokevirtual 61, 3) := by decide +kernel
theorem dX5_write_44 : decode cX5_write 44 = .ok (.ireturn, 1) := by decide +kernel
theorem dX5_write_45 : decode cX5_write 45 = .ok (.aload_n 0, 1) := by decide +kernel
theorem dX5_write_46 : decode cX5_write 46 = .ok (.getfield 38, 3) := by decide +kernel
theorem dX5_write_49 : decode cX5_write 49 = .ok (.iload_n 1, 1) := by decide +kernel
theorem dX5_write_50 : decode cX5_write 50 = .ok (.aaload, 1) := by decide +kernel
theorem dX5_write_51 : decode cX5_write 51 = .ok (.iload_n 2, 1) := by decide +kernel
theorem dX5_write_52 : decode cX5_write 52 = .ok (.iload_n 3, 1) := by decide +kernel
theorem dX5_write_53 : decode cX5_write 53 = .ok (.invokevirtual 256, 3) := by decide +kernel
theorem dX5_write_56 : decode cX5_write 56 = .ok (.iconst 1, 1) := by decide +kernel
theorem dX5_write_57 : decode cX5_write 57 = .ok (.ireturn, 1) := by decide +kernel
theorem dX5_copy_0 : decode cX5_copy 0 = .ok (.iload_n 1, 1) := by decide +kernel
theorem dX5_copy_1 : decode cX5_copy 1 = .ok (.invokestatic 249, 3) := by decide +kernel
theorem dX5_copy_4 : decode cX5_copy 4 = .ok (.ifCond .eq 10, 3) := by decide +kernel
theorem dX5_copy_7 : decode cX5_copy 7 = .ok (.iload_n 3, 1) := by decide +kernel
theorem dX5_copy_8 : decode cX5_copy 8 = .ok (.invokestatic 249, 3) := by decide +kernel
theorem dX5_copy_11 : decode cX5_copy 11 = .ok (.ifCond .ne 9, 3) := by decide +kernel
theorem dX5_copy_14 : decode cX5_copy 14 = .ok (.aload_n 0, 1) := by decide +kernel
theorem dX5_copy_15 : decode cX5_copy 15 = .ok (.iconst 0, 1) := by decide +kernel
theorem dX5_copy_16 : decode cX5_copy 16 = .ok (.invokevirtual 61, 3) := by decide +kernel
theorem dX5_copy_19 : decode cX5_copy 19 = .ok (.ireturn, 1) := by decide +kernel
theorem dX5_copy_20 : decode cX5_copy 20 = .ok (.aload_n 0, 1) := by decide +kernel
theorem dX5_copy_21 : decode cX5_copy 21 = .ok (.getfield 38, 3) := by decide +kernel
theorem dX5_copy_24 : decode cX5_copy 24 = .ok (.iload_n 1, 1) := by decide +kernel
theorem dX5_copy_25 : decode cX5_copy 25 = .ok (.aaload, 1) := by decide +kernel
theorem dX5_copy_26 : decode cX5_copy 26 = .ok (.invokevirtual 259, 3) := by decide +kernel
theorem dX5_copy_29 : decode cX5_copy 29 = .ok (.ifCond .ne 15, 3) := by decide +kernel
theorem dX5_copy_32 : decode cX5_copy 32 = .ok (.aload_n 0, 1) := by decide +kernel
theorem dX5_copy_33 : decode cX5_copy 33 = .ok (.getfield 38, 3) := by decide +kernel
theorem dX5_copy_36 : decode cX5_copy 36 = .ok (.iload_n 3, 1) := by decide +kernel
theorem dX5_copy_37 : decode cX5_copy 37 = .ok (.aaload, 1) := by decide +kernel
theorem dX5_copy_38 : decode cX5_copy 38 = .ok (.invokevirtual 259, 3) := by decide +kernel
theorem dX5_copy_41 : decode cX5_copy 41 = .ok (.ifCond .eq 9, 3) := by decide +kernel
theorem dX5_copy_44 : decode cX5_copy 44 = .ok (.aload_n 0, 1) := by decide +kernel
theorem dX5_copy_45 : decode cX5_copy 45 = .ok (.iconst 5, 1) := by decide +kernel
theorem dX5_copy_46 : decode cX5_copy 46 = .ok (.invokevirtual 61, 3) := by decide +kernel
theorem dX5_copy_49 : decode cX5_copy 49 = .ok (.ireturn, 1) := by decide +kernel
theorem dX5_copy_50 : decode cX5_copy 50 = .ok (.aload_n 0, 1) := by decide +kernel
theorem dX5_copy_51 : decode cX5_copy 51 = .ok (.getfield 38, 3) := by decide +kernel
theorem dX5_copy_54 : decode cX5_copy 54 = .ok (.iload_n 1, 1) := by decide +kernel
theorem dX5_copy_55 : decode cX5_copy 55 = .ok (.aaload, 1) := by decide +kernel
theorem dX5_copy_56 : decode cX5_copy 56 = .ok (.getfield 262, 3) := by decide +kernel
theorem dX5_copy_59 : decode cX5_copy 59 = .ok (.aload_n 0, 1) := by decide +kernel
theorem dX5_copy_60 : decode cX5_copy 60 = .ok (.getfield 38, 3) := by decide +kernel
theorem dX5_copy_63 : decode cX5_copy 63 = .ok (.iload_n 3, 1) := by decide +kernel
theorem dX5_copy_64 : decode cX5_copy 64 = .ok (.aaload, 1) := by decide +kernel
theorem dX5_copy_65 : decode cX5_copy 65 = .ok (.getfield 262, 3) := by decide +kernel
theorem dX5_copy_68 : decode cX5_copy 68 = .ok (.if_icmp .eq 9, 3) := by decide +kernel
theorem dX5_copy_71 : decode cX5_copy 71 = .ok (.aload_n 0, 1) := by decide +kernel
theorem dX5_copy_72 : decode cX5_copy 72 = .ok (.iconst 2, 1) := by decide +kernel
theorem dX5_copy_73 : decode cX5_copy 73 = .ok (.invokevirtual 61, 3) := by decide +kernel
theorem dX5_copy_76 : decode cX5_copy 76 = .ok (.ireturn, 1) := by decide +kernel
theorem dX5_copy_77 : decode cX5_copy 77 = .ok (.aload_n 0, 1) := by decide +kernel
theorem dX5_copy_78 : decode cX5_copy 78 = .ok (.getfield 38, 3) := by decide +kernel
theorem dX5_copy_81 : decode cX5_copy 81 = .ok (.iload_n 1, 1) := by decide +kernel
theorem dX5_copy_82 : decode cX5_copy 82 = .ok (.aaload, 1) := by decide +kernel
theorem dX5_copy_83 : decode cX5_copy 83 = .ok (.iload_n 2, 1) := by decide +kernel
theorem dX5_copy_84 : decode cX5_copy 84 = .ok (.iload 5, 2) := by decide +kernel
theorem dX5_copy_86 : decode cX5_copy 86 = .ok (.invokevirtual 265, 3) := by decide +kernel
theorem dX5_copy_89 : decode cX5_copy 89 = .ok (.ifCond .eq 19, 3) := by decide +kernel
theorem dX5_copy_92 : decode cX5_copy 92 = .ok (.aload_n 0, 1) := by decide +kernel
theorem dX5_copy_93 : decode cX5_copy 93 = .ok (.getfield 38, 3) := by decide +kernel
theorem dX5_copy_96 : decode cX5_copy 96 = .ok (.iload_n 3, 1) := by decide +kernel
theorem dX5_copy_97 : decode cX5_copy 97 = .ok (.aaload, 1) := by decide +kernel
theorem dX5_copy_98 : decode cX5_copy 98 = .ok (.iload 4, 2) := by decide +kernel
theorem dX5_copy_100 : decode cX5_copy 100 = .ok (.iload 5, 2) := by decide +kernel
theorem dX5_copy_102 : decode cX5_copy 102 = .ok (.invokevirtual 265, 3) := by decide +kernel
theorem dX5_copy_105 : decode cX5_copy 105 = .ok (.ifCond .ne 9, 3) := by decide +kernel
theorem dX5_copy_108 : decode cX5_copy 108 = .ok (.aload_n 0, 1) := by decide +kernel
theorem dX5_copy_109 : decode cX5_copy 109 = .ok (.iconst 0, 1) := by decide +kernel
theorem dX5_copy_110 : decode cX5_copy 110 = .ok (.invokevirtual 61, 3) := by decide +kernel
theorem dX5_copy_113 : decode cX5_copy 113 = .ok (.ireturn, 1) := by decide +kernel
theorem dX5_copy_114 : decode cX5_copy 114 = .ok (.aload_n 0, 1) := by decide +kernel
theorem dX5_copy_115 : decode cX5_copy 115 = .ok (.getfield 38, 3) := by decide +kernel
theorem dX5_copy_118 : decode cX5_copy 118 = .ok (.iload_n 1, 1) := by decide +kernel
theorem dX5_copy_119 : decode cX5_copy 119 = .ok (.aaload, 1) := by decide +kernel
theorem dX5_copy_120 : decode cX5_copy 120 = .ok (.getfield 268, 3) := by decide +kernel
theorem dX5_copy_123 : decode cX5_copy 123 = .ok (.iload_n 2, 1) := by decide +kernel
theorem dX5_copy_124 : decode cX5_copy 124 = .ok (.aload_n 0, 1) := by decide +kernel
theorem dX5_copy_125 : decode cX5_copy 125 = .ok (.getfield 38, 3) := by decide +kernel
theorem dX5_copy_128 : decode cX5_copy 128 = .ok (.iload_n 3, 1) := by decide +kernel
theorem dX5_copy_129 : decode cX5_copy 129 = .ok (.aaload, 1) := by decide +kernel
theorem dX5_copy_130 : decode cX5_copy 130 = .ok (.getfield 268, 3) := by decide +kernel
theorem dX5_copy_133 : decode cX5_copy 133 = .ok (.iload 4, 2) := by decide +kernel
theorem dX5_copy_135 : decode cX5_copy 135 = .ok (.iload 5, 2) := by decide +kernel
theorem dX5_copy_137 : decode cX5_copy 137 = .ok (.invokestatic 169, 3) := by decide +kernel
theorem dX5_copy_140 : decode cX5_copy 140 = .ok (.iload 5, 2) := by decide +kernel
theorem dX5_copy_142 : decode cX5_copy 142 = .ok (.ireturn, 1) := by decide +kernel
theorem dX5_load_0 : decode cX5_load 0 = .ok (.aload_n 0, 1) := by decide +kernel
theorem dX5_load_1 : decode cX5_load 1 = .ok (.iload_n 1, 1) := by decide +kernel
theorem dX5_load_2 : decode cX5_load 2 = .ok (.invokevirtual 210, 3) := by decide +kernel
theorem dX5_load_5 : decode cX5_load 5 = .ok (.istore_n 2, 1) := by decide +kernel
theorem dX5_load_6 : decode cX5_load 6 = .ok (.iload_n 2, 1) := by decide +kernel
theorem dX5_load_7 : decode cX5_load 7 = .ok (.iconst (-1), 1) := by decide +kernel
theorem dX5_load_8 : decode cX5_load 8 = .ok (.if_icmp .eq 9, 3) := by decide +kernel
theorem dX5_load_11 : decode cX5_load 11 = .ok (.aload_n 0, 1) := by decide +kernel
theorem dX5_load_12 : decode cX5_load 12 = .ok (.iload_n 2, 1) := by decide +kernel
theorem dX5_load_13 : decode cX5_load 13 = .ok (.invokevirtual 61, 3) := by decide +kernel
theorem dX5_load_16 : decode cX5_load 16 = .ok (.ireturn, 1) := by decide +kernel
theorem dX5_load_17 : decode cX5_load 17 = .ok (.aload_n 0, 1) := by decide +kernel
theorem dX5_load_18 : decode cX5_load 18 = .ok (.getfield 38, 3) := by decide +kernel
theorem dX5_load_21 : decode cX5_load 21 = .ok (.iload_n 1, 1) := by decide +kernel
theorem dX5_load_22 : decode cX5_load 22 = .ok (.aaload, 1) := by decide +kernel
theorem dX5_load_23 : decode cX5_load 23 = .ok (.getfield 255, 3) := by decide +kernel
theorem dX5_load_26 : decode cX5_load 26 = .ok (.bipush 25, 2) := by decide +kernel
theorem dX5_load_28 : decode cX5_load 28 = .ok (.invokestatic 271, 3) := by decide +kernel
theorem dX5_load_31 : decode cX5_load 31 = .ok (.istore_n 3, 1) := by decide +kernel
theorem dX5_load_32 : decode cX5_load 32 = .ok (.iconst 0, 1) := by decide +kernel
theorem dX5_load_33 : decode cX5_load 33 = .ok (.istore 4, 2) := by decide +kernel
theorem dX5_load_35 : decode cX5_load 35 = .ok (.iload 4, 2) := by decide +kernel
theorem dX5_load_37 : decode cX5_load 37 = .ok (.iload_n 3, 1) := by decide +kernel
theorem dX5_load_38 : decode cX5_load 38 = .ok (.if_icmp .ge 52, 3) := by decide +kernel
theorem dX5_load_41 : decode cX5_load 41 = .ok (.aload_n 0, 1) := by decide +kernel
theorem dX5_load_42 : decode cX5_load 42 = .ok (.getfield 38, 3) := by decide +kernel
theorem dX5_load_45 : decode cX5_load 45 = .ok (.iload_n 1, 1) := by decide +kernel
theorem dX5_load_46 : decode cX5_load 46 = .ok (.aaload, 1) := by decide +kernel
theorem dX5_load_47 : decode cX5_load 47 = .ok (.getfield 268, 3) := by decide +kernel
theorem dX5_load_50 : decode cX5_load 50 = .ok (.iload 4, 2) := by decide +kernel
theorem dX5_load_52 : decode cX5_load 52 = .ok (.iaload, 1) := by decide +kernel
theorem dX5_load_53 : decode cX5_load 53 = .ok (.invokestatic 58, 3) := by decide +kernel
theorem dX5_load_56 : decode cX5_load 56 = .ok (.ifCond .ne 6, 3) := by decide +kernel
theorem dX5_load_59 : decode cX5_load 59 = .ok (.iload 4, 2) := by decide +kernel
theorem dX5_load_61 : decode cX5_load 61 = .ok (.ireturn, 1) := by decide +kernel
theorem dX5_load_62 : decode cX5_load 62 = .ok (.aload_n 0, 1) := by decide +kernel
theorem dX5_load_63 : decode cX5_load 63 = .ok (.getfield 10, 3) := by decide +kernel
theorem dX5_load_66 : decode cX5_load 66 = .ok (.getfield 65, 3) := by decide +kernel
theorem dX5_load_69 : decode cX5_load 69 = .ok (.iload 4, 2) := by decide +kernel
theorem dX5_load_71 : decode cX5_load 71 = .ok (.aload_n 0, 1) := by decide +kernel
theorem dX5_load_72 : decode cX5_load 72 = .ok (.getfield 38, 3) := by decide +kernel
theorem dX5_load_75 : decode cX5_load 75 = .ok (.iload_n 1, 1) := by decide +kernel
theorem dX5_load_76 : decode cX5_load 76 = .ok (.aaload, 1) := by decide +kernel
theorem dX5_load_77 : decode cX5_load 77 = .ok (.getfield 268, 3) := by decide +kernel
theorem dX5_load_80 : decode cX5_load 80 = .ok (.iload 4, 2) := by decide +kernel
theorem dX5_load_82 : decode cX5_load 82 = .ok (.iaload, 1) := by decide +kernel
theorem dX5_load_83 : decode cX5_load 83 = .ok (.iastore, 1) := by decide +kernel
theorem dX5_load_84 : decode cX5_load 84 = .ok (.iinc 4 1, 3) := by decide +kernel
theorem dX5_load_87 : decode cX5_load 87 = .ok (.goto (-52), 3) := by decide +kernel
theorem dX5_load_90 : decode cX5_load 90 = .ok (.iload_n 3, 1) := by decide +kernel
theorem dX5_load_91 : decode cX5_load 91 = .ok (.ireturn, 1) := by decide +kernel
theorem dX5_judge_0 : decode cX5_judge 0 = .ok (.aload_n 0, 1) := by decide +kernel
theorem dX5_judge_1 : decode cX5_judge 1 = .ok (.iload_n 1, 1) := by decide +kernel
theorem dX5_judge_2 : decode cX5_judge 2 = .ok (.invokevirtual 210, 3) := by decide +kernel
theorem dX5_judge_5 : decode cX5_judge 5 = .ok (.istore_n 3, 1) := by decide +kernel
theorem dX5_judge_6 : decode cX5_judge 6 = .ok (.iload_n 3, 1) := by decide +kernel
theorem dX5_judge_7 : decode cX5_judge 7 = .ok (.iconst (-1), 1) := by decide +kernel
theorem dX5_judge_8 : decode cX5_judge 8 = .ok (.if_icmp .eq 9, 3) := by decide +kernel
theorem dX5_judge_11 : decode cX5_judge 11 = .ok (.aload_n 0, 1) := by decide +kernel
theorem dX5_judge_12 : decode cX5_judge 12 = .ok (.iload_n 3, 1) := by decide +kernel
theorem dX5_judge_13 : decode cX5_judge 13 = .ok (.invokevirtual 61, 3) := by decide +kernel
theorem dX5_judge_16 : decode cX5_judge 16 = .ok (.ireturn, 1) := by decide +kernel
theorem dX5_judge_17 : decode cX5_judge 17 = .ok (.iload_n 2, 1) := by decide +kernel
theorem dX5_judge_18 : decode cX5_judge 18 = .ok (.invokestatic 58, 3) := by decide +kernel
theorem dX5_judge_21 : decode cX5_judge 21 = .ok (.ifCond .ne 9, 3) := by decide +kernel
theorem dX5_judge_24 : decode cX5_judge 24 = .ok (.aload_n 0, 1) := by decide +kernel
theorem dX5_judge_25 : decode cX5_judge 25 = .ok (.iconst 0, 1) := by decide +kernel
theorem dX5_judge_26 : decode cX5_judge 26 = .ok (.invokevirtual 61, 3) := by decide +kernel
theorem dX5_judge_29 : decode cX5_judge 29 = .ok (.ireturn, 1) := by decide +kernel
theorem dX5_judge_30 : decode cX5_judge 30 = .ok (.aload_n 0, 1) := by decide +kernel
theorem dX5_judge_31 : decode cX5_judge 31 = .ok (.getfield 38, 3) := by decide +kernel
theorem dX5_judge_34 : decode cX5_judge 34 = .ok (.iload_n 1, 1) := by decide +kernel
theorem dX5_judge_35 : decode cX5_judge 35 = .ok (.aaload, 1) := by decide +kernel
theorem dX5_judge_36 : decode cX5_judge 36 = .ok (.getfield 268, 3) := by decide +kernel
theorem dX5_judge_39 : decode cX5_judge 39 = .ok (.astore 4, 2) := by decide +kernel
theorem dX5_judge_41 : decode cX5_judge 41 = .ok (.iconst 0, 1) := by decide +kernel
theorem dX5_judge_42 : decode cX5_judge 42 = .ok (.istore 5, 2) := by decide +kernel
theorem dX5_judge_44 : decode cX5_judge 44 = .ok (.iload 5, 2) := by decide +kernel
theorem dX5_judge_46 : decode cX5_judge 46 = .ok (.aload_n 0, 1) := by decide +kernel
theorem dX5_judge_47 : decode cX5_judge 47 = .ok (.getfield 38, 3) := by decide +kernel
theorem dX5_judge_50 : decode cX5_judge 50 = .ok (.iload_n 1, 1) := by decide +kernel
theorem dX5_judge_51 : decode cX5_judge 51 = .ok (.aaload, 1) := by decide +kernel
theorem dX5_judge_52 : decode cX5_judge 52 = .ok (.getfield 255, 3) := by decide +kernel
theorem dX5_judge_55 : decode cX5_judge 55 = .ok (.if_icmp .ge 53, 3) := by decide +kernel
theorem dX5_judge_58 : decode cX5_judge 58 = .ok (.aload 4, 2) := by decide +kernel
theorem dX5_judge_60 : decode cX5_judge 60 = .ok (.iload 5, 2) := by decide +kernel
theorem dX5_judge_62 : decode cX5_judge 62 = .ok (.iaload, 1) := by decide +kernel
theorem dX5_judge_63 : decode cX5_judge 63 = .ok (.invokestatic 54, 3) := by decide +kernel
theorem dX5_judge_66 : decode cX5_judge 66 = .ok (.ifCond .eq 31, 3) := by decide +kernel
theorem dX5_judge_69 : decode cX5_judge 69 = .ok (.iload 5, 2) := by decide +kernel
theorem dX5_judge_71 : decode cX5_judge 71 = .ok (.ifCond .le 31, 3) := by decide +kernel
theorem dX5_judge_74 : decode cX5_judge 74 = .ok (.aload_n 0, 1) := by decide +kernel
theorem dX5_judge_75 : decode cX5_judge 75 = .ok (.getfield 10, 3) := by decide +kernel
theorem dX5_judge_78 : decode cX5_judge 78 = .ok (.aload 4, 2) := by decide +kernel
theorem dX5_judge_80 : decode cX5_judge 80 = .ok (.iload 5, 2) := by decide +kernel
theorem dX5_judge_82 : decode cX5_judge 82 = .ok (.iconst 1, 1) := by decide +kernel
theorem dX5_judge_83 : decode cX5_judge 83 = .ok (.isub, 1) := by decide +kernel
theorem dX5_judge_84 : decode cX5_judge 84 = .ok (.iaload, 1) := by decide +kernel
theorem dX5_judge_85 : decode cX5_judge 85 = .ok (.aload 4, 2) := by decide +kernel
theorem dX5_judge_87 : decode cX5_judge 87 = .ok (.iload 5, 2) := by decide +kernel
theorem dX5_judge_89 : decode cX5_judge 89 = .ok (.iaload, 1) := by decide +kernel
theorem dX5_judge_90 : decode cX5_judge 90 = .ok (.iload_n 2, 1) := by decide +kernel
theorem dX5_judge_91 : decode cX5_judge 91 = .ok (.invokevirtual 277, 3) := by decide +kernel
theorem dX5_judge_94 : decode cX5_judge 94 = .ok (.ifCond .ne 8, 3) := by decide +kernel
theorem dX5_judge_97 : decode cX5_judge 97 = .ok (.iconst 1, 1) := by decide +kernel
theorem dX5_judge_98 : decode cX5_judge 98 = .ok (.iload 5, 2) := by decide +kernel
theorem dX5_judge_100 : decode cX5_judge 100 = .ok (.iadd, 1) := by decide +kernel
theorem dX5_judge_101 : decode cX5_judge 101 = .ok (.ireturn, 1) := by decide +kernel
theorem dX5_judge_102 : decode cX5_judge 102 = .ok (.iinc 5 1, 3) := by decide +kernel
theorem dX5_judge_105 : decode cX5_judge 105 = .ok (.goto (-61), 3) := by decide +kernel
theorem dX5_judge_108 : decode cX5_judge 108 = .ok (.iconst 0, 1) := by decide +kernel
theorem dX5_judge_109 : decode cX5_judge 109 = .ok (.ireturn, 1) := by decide +kernel
theorem dX5_image_0 : decode cX5_image 0 = .ok (.aload_n 0, 1) := by decide +kernel
theorem dX5_image_1 : decode cX5_image 1 = .ok (.getfield 16, 3) := by decide +kernel
theorem dX5_image_4 : decode cX5_image 4 = .ok (.aload_n 0, 1) := by decide +kernel
theorem dX5_image_5 : decode cX5_image 5 = .ok (.getfield 10, 3) := by decide +kernel
theorem dX5_image_8 : decode cX5_image 8 = .ok (.invokevirtual 159, 3) := by decide +kernel
theorem dX5_image_11 : decode cX5_image 11 = .ok (.aload_n 0, 1) := by decide +kernel
theorem dX5_image_12 : decode cX5_image 12 = .ok (.iconst 1, 1) := by decide +kernel
theorem dX5_image_13 : decode cX5_image 13 = .ok (.putfield 49, 3) := by decide +kernel
theorem dX5_image_16 : decode cX5_image 16 = .ok (.iconst 1, 1) := by decide +kernel
theorem dX5_image_17 : decode cX5_image 17 = .ok (.ireturn, 1) := by decide +kernel
theorem dX5_undo_0 : decode cX5_undo 0 = .ok (.aload_n 0, 1) := by decide +kernel
theorem dX5_undo_1 : decode cX5_undo 1 = .ok (.getfield 49, 3) := by decide +kernel
theorem dX5_undo_4 : decode cX5_undo 4 = .ok (.ifCond .ne 9, 3) := by decide +kernel
theorem dX5_undo_7 : decode cX5_undo 7 = .ok (.aload_n 0, 1) := by decide +kernel
theorem dX5_undo_8 : decode cX5_undo 8 = .ok (.iconst 3, 1) := by decide +kernel
theorem dX5_undo_9 : decode cX5_undo 9 = .ok (.invokevirtual 61, 3) := by decide +kernel
theorem dX5_undo_12 : decode cX5_undo 12 = .ok (.ireturn, 1) := by decide +kernel
theorem dX5_undo_13 : decode cX5_undo 13 = .ok (.aload_n 0, 1) := by decide +kernel
theorem dX5_undo_14 : decode cX5_undo 14 = .ok (.getfield 10, 3) := by decide +kernel
theorem dX5_undo_17 : decode cX5_undo 17 = .ok (.aload_n 0, 1) := by decide +kernel
theorem dX5_undo_18 : decode cX5_undo 18 = .ok (.getfield 16, 3) := by decide +kernel
theorem dX5_undo_21 : decode cX5_undo 21 = .ok (.invokevirtual 159, 3) := by decide +kernel
theorem dX5_undo_24 : decode cX5_undo 24 = .ok (.aload_n 0, 1) := by decide +kernel
theorem dX5_undo_25 : decode cX5_undo 25 = .ok (.getfield 10, 3) := by decide +kernel
theorem dX5_undo_28 : decode cX5_undo 28 = .ok (.getfield 119, 3) := by decide +kernel
theorem dX5_undo_31 : decode cX5_undo 31 = .ok (.ireturn, 1) := by decide +kernel
theorem dX5_tear_0 : decode cX5_tear 0 = .ok (.aload_n 0, 1) := by decide +kernel
theorem dX5_tear_1 : decode cX5_tear 1 = .ok (.getfield 49, 3) := by decide +kernel
theorem dX5_tear_4 : decode cX5_tear 4 = .ok (.ifCond .eq 7, 3) := by decide +kernel
theorem dX5_tear_7 : decode cX5_tear 7 = .ok (.iconst 1, 1) := by decide +kernel
theorem dX5_tear_8 : decode cX5_tear 8 = .ok (.goto 4, 3) := by decide +kernel
theorem dX5_tear_11 : decode cX5_tear 11 = .ok (.iconst 0, 1) := by decide +kernel
theorem dX5_tear_12 : decode cX5_tear 12 = .ok (.istore_n 1, 1) := by decide +kernel
theorem dX5_tear_13 : decode cX5_tear 13 = .ok (.aload_n 0, 1) := by decide +kernel
theorem dX5_tear_14 : decode cX5_tear 14 = .ok (.iconst 0, 1) := by decide +kernel
theorem dX5_tear_15 : decode cX5_tear 15 = .ok (.putfield 49, 3) := by decide +kernel
theorem dX5_tear_18 : decode cX5_tear 18 = .ok (.iload_n 1, 1) := by decide +kernel
theorem dX5_tear_19 : decode cX5_tear 19 = .ok (.ireturn, 1) := by decide +kernel
theorem dX5_count_0 : decode cX5_count 0 = .ok (.iload_n 1, 1) := by decide +kernel
theorem dX5_count_1 : decode cX5_count 1 = .ok (.tableswitch 114 0 7 #[47, 55, 63, 74, 82, 90, 98, 106], 47) := by decide +kernel
theorem dX5_count_48 : decode cX5_count 48 = .ok (.aload_n 0, 1) := by decide +kernel
theorem dX5_count_49 : decode cX5_count 49 = .ok (.getfield 10, 3) := by decide +kernel
theorem dX5_count_52 : decode cX5_count 52 = .ok (.getfield 119, 3) := by decide +kernel
theorem dX5_count_55 : decode cX5_count 55 = .ok (.ireturn, 1) := by decide +kernel
theorem dX5_count_56 : decode cX5_count 56 = .ok (.aload_n 0, 1) := by decide +kernel
theorem dX5_count_57 : decode cX5_count 57 = .ok (.getfield 10, 3) := by decide +kernel
theorem dX5_count_60 : decode cX5_count 60 = .ok (.getfield 88, 3) := by decide +kernel
theorem dX5_count_63 : decode cX5_count 63 = .ok (.ireturn, 1) := by decide +kernel
theorem dX5_count_64 : decode cX5_count 64 = .ok (.aload_n 0, 1) := by decide +kernel
theorem dX5_count_65 : decode cX5_count 65 = .ok (.getfield 10, 3) := by decide +kernel
theorem dX5_count_68 : decode cX5_count 68 = .ok (.invokevirtual 132, 3) := by decide +kernel
theorem dX5_count_71 : decode cX5_count 71 = .ok (.invokestatic 280, 3) := by decide +kernel
theorem dX5_count_74 : decode cX5_count 74 = .ok (.ireturn, 1) := by decide +kernel
theorem dX5_count_75 : decode cX5_count 75 = .ok (.aload_n 0, 1) := by decide +kernel
theorem dX5_count_76 : decode cX5_count 76 = .ok (.getfield 10, 3) := by decide +kernel
theorem dX5_count_79 : decode cX5_count 79 = .ok (.invokevirtual 135, 3) := by decide +kernel
theorem dX5_count_82 : decode cX5_count 82 = .ok (.ireturn, 1) := by decide +kernel
theorem dX5_count_83 : decode cX5_count 83 = .ok (.aload_n 0, 1) := by decide +kernel
theorem dX5_count_84 : decode cX5_count 84 = .ok (.getfield 10, 3) := by decide +kernel
theorem dX5_count_87 : decode cX5_count 87 = .ok (.invokevirtual 126, 3) := by decide +kernel
theorem dX5_count_90 : decode cX5_count 90 = .ok (.ireturn, 1) := by decide +kernel
theorem dX5_count_91 : decode cX5_count 91 = .ok (.aload_n 0, 1) := by decide +kernel
theorem dX5_count_92 : decode cX5_count 92 = .ok (.getfield 32, 3) := by decide +kernel
theorem dX5_count_95 : decode cX5_count 95 = .ok (.getfield 233, 3) := by decide +kernel
theorem dX5_count_98 : decode cX5_count 98 = .ok (.ireturn, 1) := by decide +kernel
theorem dX5_count_99 : decode cX5_count 99 = .ok (.aload_n 0, 1) := by decide +kernel
theorem dX5_count_100 : decode cX5_count 100 = .ok (.getfield 10, 3) := by decide +kernel
theorem dX5_count_103 : decode cX5_count 103 = .ok (.getfield 230, 3) := by decide +kernel
theorem dX5_count_106 : decode cX5_count 106 = .ok (.ireturn, 1) := by decide +kernel
theorem dX5_count_107 : decode cX5_count 107 = .ok (.aload_n 0, 1) := by decide +kernel
theorem dX5_count_108 : decode cX5_count 108 = .ok (.getfield 10, 3) := by decide +kernel
theorem dX5_count_111 : decode cX5_count 111 = .ok (.invokevirtual 285, 3) := by decide +kernel
theorem dX5_count_114 : decode cX5_count 114 = .ok (.ireturn, 1) := by decide +kernel
theorem dX5_count_115 : decode cX5_count 115 = .ok (.aload_n 0, 1) := by decide +kernel
theorem dX5_count_116 : decode cX5_count 116 = .ok (.iconst 0, 1) := by decide +kernel
theorem dX5_count_117 : decode cX5_count 117 = .ok (.invokevirtual 61, 3) := by decide +kernel
theorem dX5_count_120 : decode cX5_count 120 = .ok (.ireturn, 1) := by decide +kernel
theorem dX5_status_0 : decode cX5_status 0 = .ok (.iload_n 1, 1) := by decide +kernel
theorem dX5_status_1 : decode cX5_status 1 = .ok (.iconst (-1), 1) := by decide +kernel
theorem dX5_status_2 : decode cX5_status 2 = .ok (.bipush 6, 2) := by decide +kernel
theorem dX5_status_4 : decode cX5_status 4 = .ok (.invokestatic 68, 3) := by decide +kernel
theorem dX5_status_7 : decode cX5_status 7 = .ok (.ifCond .ne 9, 3) := by decide +kernel
theorem dX5_status_10 : decode cX5_status 10 = .ok (.aload_n 0, 1) := by decide +kernel
theorem dX5_status_11 : decode cX5_status 11 = .ok (.iconst 0, 1) := by decide +kernel
theorem dX5_status_12 : decode cX5_status 12 = .ok (.invokevirtual 61, 3) := by decide +kernel
theorem dX5_status_15 : decode cX5_status 15 = .ok (.ireturn, 1) := by decide +kernel
theorem dX5_status_16 : decode cX5_status 16 = .ok (.iload_n 1, 1) := by decide +kernel
theorem dX5_status_17 : decode cX5_status 17 = .ok (.ifCond .lt 10, 3) := by decide +kernel
theorem dX5_status_20 : decode cX5_status 20 = .ok (.aload_n 0, 1) := by decide +kernel
theorem dX5_status_21 : decode cX5_status 21 = .ok (.getfield 42, 3) := by decide +kernel
theorem dX5_status_24 : decode cX5_status 24 = .ok (.iload_n 1, 1) := by decide +kernel
theorem dX5_status_25 : decode cX5_status 25 = .ok (.iaload, 1) := by decide +kernel
theorem dX5_status_26 : decode cX5_status 26 = .ok (.ireturn, 1) := by decide +kernel
theorem dX5_status_27 : decode cX5_status 27 = .ok (.iconst 0, 1) := by decide +kernel
theorem dX5_status_28 : decode cX5_status 28 = .ok (.istore_n 2, 1) := by decide +kernel
theorem dX5_status_29 : decode cX5_status 29 = .ok (.iconst 0, 1) := by decide +kernel
theorem dX5_status_30 : decode cX5_status 30 = .ok (.istore_n 3, 1) := by decide +kernel
theorem dX5_status_31 : decode cX5_status 31 = .ok (.iload_n 3, 1) := by decide +kernel
theorem dX5_status_32 : decode cX5_status 32 = .ok (.bipush 7, 2) := by decide +kernel
theorem dX5_status_34 : decode cX5_status 34 = .ok (.if_icmp .ge 18, 3) := by decide +kernel
theorem dX5_status_37 : decode cX5_status 37 = .ok (.iload_n 2, 1) := by decide +kernel
theorem dX5_status_38 : decode cX5_status 38 = .ok (.aload_n 0, 1) := by decide +kernel
theorem dX5_status_39 : decode cX5_status 39 = .ok (.getfield 42, 3) := by decide +kernel
theorem dX5_status_42 : decode cX5_status 42 = .ok (.iload_n 3, 1) := by decide +kernel
theorem dX5_status_43 : decode cX5_status 43 = .ok (.iaload, 1) := by decide +kernel
