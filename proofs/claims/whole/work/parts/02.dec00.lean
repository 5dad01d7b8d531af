theorem dJ0_length_8abf5_0 : decode cJ0_length_8abf5 0 = .ok (.aload_n 0, 1) := by decide +kernel
theorem dJ0_length_8abf5_1 : decode cJ0_length_8abf5 1 = .ok (.getfield 9, 3) := by decide +kernel
theorem dJ0_length_8abf5_4 : decode cJ0_length_8abf5 4 = .ok (.arraylength, 1) := by decide +kernel
theorem dJ0_length_8abf5_5 : decode cJ0_length_8abf5 5 = .ok (.aload_n 0, 1) := by decide +kernel
theorem dJ0_length_8abf5_6 : decode cJ0_length_8abf5 6 = .ok (.invokevirtual 335, 3) := by decide +kernel
theorem dJ0_length_8abf5_9 : decode cJ0_length_8abf5 9 = .ok (.ishr, 1) := by decide +kernel
theorem dJ0_length_8abf5_10 : decode cJ0_length_8abf5 10 = .ok (.ireturn, 1) := by decide +kernel
theorem dJ0_charAt_5068e_0 : decode cJ0_charAt_5068e 0 = .ok (.aload_n 0, 1) := by decide +kernel
theorem dJ0_charAt_5068e_1 : decode cJ0_charAt_5068e 1 = .ok (.invokevirtual 492, 3) := by decide +kernel
theorem dJ0_charAt_5068e_4 : decode cJ0_charAt_5068e 4 = .ok (.ifCond .eq 12, 3) := by decide +kernel
theorem dJ0_charAt_5068e_7 : decode cJ0_charAt_5068e 7 = .ok (.aload_n 0, 1) := by decide +kernel
theorem dJ0_charAt_5068e_8 : decode cJ0_charAt_5068e 8 = .ok (.getfield 9, 3) := by decide +kernel
theorem dJ0_charAt_5068e_11 : decode cJ0_charAt_5068e 11 = .ok (.iload_n 1, 1) := by decide +kernel
theorem dJ0_charAt_5068e_12 : decode cJ0_charAt_5068e 12 = .ok (.invokestatic 495, 3) := by decide +kernel
theorem dJ0_charAt_5068e_15 : decode cJ0_charAt_5068e 15 = .ok (.ireturn, 1) := by decide +kernel
theorem dJ0_charAt_5068e_16 : decode cJ0_charAt_5068e 16 = .ok (.aload_n 0, 1) := by decide +kernel
theorem dJ0_charAt_5068e_17 : decode cJ0_charAt_5068e 17 = .ok (.getfield 9, 3) := by decide +kernel
theorem dJ0_charAt_5068e_20 : decode cJ0_charAt_5068e 20 = .ok (.iload_n 1, 1) := by decide +kernel
theorem dJ0_charAt_5068e_21 : decode cJ0_charAt_5068e 21 = .ok (.invokestatic 498, 3) := by decide +kernel
theorem dJ0_charAt_5068e_24 : decode cJ0_charAt_5068e 24 = .ok (.ireturn, 1) := by decide +kernel
theorem dJ0_coder_7d493_0 : decode cJ0_coder_7d493 0 = .ok (.getstatic 38, 3) := by decide +kernel
theorem dJ0_coder_7d493_3 : decode cJ0_coder_7d493 3 = .ok (.ifCond .eq 10, 3) := by decide +kernel
theorem dJ0_coder_7d493_6 : decode cJ0_coder_7d493 6 = .ok (.aload_n 0, 1) := by decide +kernel
theorem dJ0_coder_7d493_7 : decode cJ0_coder_7d493 7 = .ok (.getfield 15, 3) := by decide +kernel
theorem dJ0_coder_7d493_10 : decode cJ0_coder_7d493 10 = .ok (.goto 4, 3) := by decide +kernel
theorem dJ0_coder_7d493_13 : decode cJ0_coder_7d493 13 = .ok (.iconst 1, 1) := by decide +kernel
theorem dJ0_coder_7d493_14 : decode cJ0_coder_7d493 14 = .ok (.ireturn, 1) := by decide +kernel
theorem dJ0_isLatin1_aae02_0 : decode cJ0_isLatin1_aae02 0 = .ok (.getstatic 38, 3) := by decide +kernel
theorem dJ0_isLatin1_aae02_3 : decode cJ0_isLatin1_aae02 3 = .ok (.ifCond .eq 14, 3) := by decide +kernel
theorem dJ0_isLatin1_aae02_6 : decode cJ0_isLatin1_aae02 6 = .ok (.aload_n 0, 1) := by decide +kernel
theorem dJ0_isLatin1_aae02_7 : decode cJ0_isLatin1_aae02 7 = .ok (.getfield 15, 3) := by decide +kernel
theorem dJ0_isLatin1_aae02_10 : decode cJ0_isLatin1_aae02 10 = .ok (.ifCond .ne 7, 3) := by decide +kernel
theorem dJ0_isLatin1_aae02_13 : decode cJ0_isLatin1_aae02 13 = .ok (.iconst 1, 1) := by decide +kernel
theorem dJ0_isLatin1_aae02_14 : decode cJ0_isLatin1_aae02 14 = .ok (.goto 4, 3) := by decide +kernel
theorem dJ0_isLatin1_aae02_17 : decode cJ0_isLatin1_aae02 17 = .ok (.iconst 0, 1) := by decide +kernel
theorem dJ0_isLatin1_aae02_18 : decode cJ0_isLatin1_aae02 18 = .ok (.ireturn, 1) := by decide +kernel
theorem dJ0_checkIndex_df160_0 : decode cJ0_checkIndex_df160 0 = .ok (.iload_n 0, 1) := by decide +kernel
theorem dJ0_checkIndex_df160_1 : decode cJ0_checkIndex_df160 1 = .ok (.iload_n 1, 1) := by decide +kernel
theorem dJ0_checkIndex_df160_2 : decode cJ0_checkIndex_df160 2 = .ok (.getstatic 1053, 3) := by decide +kernel
theorem dJ0_checkIndex_df160_5 : decode cJ0_checkIndex_df160 5 = .ok (.invokestatic 1059, 3) := by decide +kernel
theorem dJ0_checkIndex_df160_8 : decode cJ0_checkIndex_df160 8 = .ok (.pop, 1) := by decide +kernel
theorem dJ0_checkIndex_df160_9 : decode cJ0_checkIndex_df160 9 = .ok (.return_, 1) := by decide +kernel
theorem dJ1_charAt_3b067_0 : decode cJ1_charAt_3b067 0 = .ok (.iload_n 1, 1) := by decide +kernel
theorem dJ1_charAt_3b067_1 : decode cJ1_charAt_3b067 1 = .ok (.aload_n 0, 1) := by decide +kernel
theorem dJ1_charAt_3b067_2 : decode cJ1_charAt_3b067 2 = .ok (.arraylength, 1) := by decide +kernel
theorem dJ1_charAt_3b067_3 : decode cJ1_charAt_3b067 3 = .ok (.invokestatic 9, 3) := by decide +kernel
theorem dJ1_charAt_3b067_6 : decode cJ1_charAt_3b067 6 = .ok (.aload_n 0, 1) := by decide +kernel
theorem dJ1_charAt_3b067_7 : decode cJ1_charAt_3b067 7 = .ok (.iload_n 1, 1) := by decide +kernel
theorem dJ1_charAt_3b067_8 : decode cJ1_charAt_3b067 8 = .ok (.baload, 1) := by decide +kernel
theorem dJ1_charAt_3b067_9 : decode cJ1_charAt_3b067 9 = .ok (.sipush 255, 3) := by decide +kernel
theorem dJ1_charAt_3b067_12 : decode cJ1_charAt_3b067 12 = .ok (.iand, 1) := by decide +kernel
theorem dJ1_charAt_3b067_13 : decode cJ1_charAt_3b067 13 = .ok (.i2c, 1) := by decide +kernel
theorem dJ1_charAt_3b067_14 : decode cJ1_charAt_3b067 14 = .ok (.ireturn, 1) := by decide +kernel
theorem dJ2_getChar_3b067_0 : decode cJ2_getChar_3b067 0 = .ok (.getstatic 44, 3) := by decide +kernel
theorem dJ2_getChar_3b067_3 : decode cJ2_getChar_3b067 3 = .ok (.ifCond .ne 25, 3) := by decide +kernel
theorem dJ2_getChar_3b067_6 : decode cJ2_getChar_3b067 6 = .ok (.iload_n 1, 1) := by decide +kernel
theorem dJ2_getChar_3b067_7 : decode cJ2_getChar_3b067 7 = .ok (.ifCond .lt 11, 3) := by decide +kernel
theorem dJ2_getChar_3b067_10 : decode cJ2_getChar_3b067 10 = .ok (.iload_n 1, 1) := by decide +kernel
theorem dJ2_getChar_3b067_11 : decode cJ2_getChar_3b067 11 = .ok (.aload_n 0, 1) := by decide +kernel
theorem dJ2_getChar_3b067_12 : decode cJ2_getChar_3b067 12 = .ok (.invokestatic 48, 3) := by decide +kernel
theorem dJ2_getChar_3b067_15 : decode cJ2_getChar_3b067 15 = .ok (.if_icmp .lt 13, 3) := by decide +kernel
theorem dJ2_getChar_3b067_18 : decode cJ2_getChar_3b067 18 = .ok (.new 52, 3) := by decide +kernel
theorem dJ2_getChar_3b067_21 : decode cJ2_getChar_3b067 21 = .ok (.dup, 1) := by decide +kernel
theorem dJ2_getChar_3b067_22 : decode cJ2_getChar_3b067 22 = .ok (.ldc 54, 2) := by decide +kernel
theorem dJ2_getChar_3b067_24 : decode cJ2_getChar_3b067 24 = .ok (.invokespecial 56, 3) := by decide +kernel
theorem dJ2_getChar_3b067_27 : decode cJ2_getChar_3b067 27 = .ok (.athrow, 1) := by decide +kernel
theorem dJ2_getChar_3b067_28 : decode cJ2_getChar_3b067 28 = .ok (.iload_n 1, 1) := by decide +kernel
theorem dJ2_getChar_3b067_29 : decode cJ2_getChar_3b067 29 = .ok (.iconst 1, 1) := by decide +kernel
theorem dJ2_getChar_3b067_30 : decode cJ2_getChar_3b067 30 = .ok (.ishl, 1) := by decide +kernel
theorem dJ2_getChar_3b067_31 : decode cJ2_getChar_3b067 31 = .ok (.istore_n 1, 1) := by decide +kernel
theorem dJ2_getChar_3b067_32 : decode cJ2_getChar_3b067 32 = .ok (.aload_n 0, 1) := by decide +kernel
theorem dJ2_getChar_3b067_33 : decode cJ2_getChar_3b067 33 = .ok (.iload_n 1, 1) := by decide +kernel
theorem dJ2_getChar_3b067_34 : decode cJ2_getChar_3b067 34 = .ok (.iinc 1 1, 3) := by decide +kernel
theorem dJ2_getChar_3b067_37 : decode cJ2_getChar_3b067 37 = .ok (.baload, 1) := by decide +kernel
theorem dJ2_getChar_3b067_38 : decode cJ2_getChar_3b067 38 = .ok (.sipush 255, 3) := by decide +kernel
theorem dJ2_getChar_3b067_41 : decode cJ2_getChar_3b067 41 = .ok (.iand, 1) := by decide +kernel
theorem dJ2_getChar_3b067_42 : decode cJ2_getChar_3b067 42 = .ok (.getstatic 59, 3) := by decide +kernel
theorem dJ2_getChar_3b067_45 : decode cJ2_getChar_3b067 45 = .ok (.ishl, 1) := by decide +kernel
theorem dJ2_getChar_3b067_46 : decode cJ2_getChar_3b067 46 = .ok (.aload_n 0, 1) := by decide +kernel
theorem dJ2_getChar_3b067_47 : decode cJ2_getChar_3b067 47 = .ok (.iload_n 1, 1) := by decide +kernel
theorem dJ2_getChar_3b067_48 : decode cJ2_getChar_3b067 48 = .ok (.baload, 1) := by decide +kernel
theorem dJ2_getChar_3b067_49 : decode cJ2_getChar_3b067 49 = .ok (.sipush 255, 3) := by decide +kernel
theorem dJ2_getChar_3b067_52 : decode cJ2_getChar_3b067 52 = .ok (.iand, 1) := by decide +kernel
theorem dJ2_getChar_3b067_53 : decode cJ2_getChar_3b067 53 = .ok (.getstatic 63, 3) := by decide +kernel
theorem dJ2_getChar_3b067_56 : decode cJ2_getChar_3b067 56 = .ok (.ishl, 1) := by decide +kernel
theorem dJ2_getChar_3b067_57 : decode cJ2_getChar_3b067 57 = .ok (.ior, 1) := by decide +kernel
theorem dJ2_getChar_3b067_58 : decode cJ2_getChar_3b067 58 = .ok (.i2c, 1) := by decide +kernel
theorem dJ2_getChar_3b067_59 : decode cJ2_getChar_3b067 59 = .ok (.ireturn, 1) := by decide +kernel
theorem dJ2_length_9d52b_0 : decode cJ2_length_9d52b 0 = .ok (.aload_n 0, 1) := by decide +kernel
theorem dJ2_length_9d52b_1 : decode cJ2_length_9d52b 1 = .ok (.arraylength, 1) := by decide +kernel
theorem dJ2_length_9d52b_2 : decode cJ2_length_9d52b 2 = .ok (.iconst 1, 1) := by decide +kernel
theorem dJ2_length_9d52b_3 : decode cJ2_length_9d52b 3 = .ok (.ishr, 1) := by decide +kernel
theorem dJ2_length_9d52b_4 : decode cJ2_length_9d52b 4 = .ok (.ireturn, 1) := by decide +kernel
theorem dJ2_charAt_3b067_0 : decode cJ2_charAt_3b067 0 = .ok (.iload_n 1, 1) := by decide +kernel
theorem dJ2_charAt_3b067_1 : decode cJ2_charAt_3b067 1 = .ok (.aload_n 0, 1) := by decide +kernel
theorem dJ2_charAt_3b067_2 : decode cJ2_charAt_3b067 2 = .ok (.invokestatic 67, 3) := by decide +kernel
theorem dJ2_charAt_3b067_5 : decode cJ2_charAt_3b067 5 = .ok (.aload_n 0, 1) := by decide +kernel
theorem dJ2_charAt_3b067_6 : decode cJ2_charAt_3b067 6 = .ok (.iload_n 1, 1) := by decide +kernel
theorem dJ2_charAt_3b067_7 : decode cJ2_charAt_3b067 7 = .ok (.invokestatic 71, 3) := by decide +kernel
theorem dJ2_charAt_3b067_10 : decode cJ2_charAt_3b067 10 = .ok (.ireturn, 1) := by decide +kernel
theorem dJ2_checkIndex_2214a_0 : decode cJ2_checkIndex_2214a 0 = .ok (.iload_n 0, 1) := by decide +kernel
theorem dJ2_checkIndex_2214a_1 : decode cJ2_checkIndex_2214a 1 = .ok (.aload_n 1, 1) := by decide +kernel
theorem dJ2_checkIndex_2214a_2 : decode cJ2_checkIndex_2214a 2 = .ok (.invokestatic 48, 3) := by decide +kernel
theorem dJ2_checkIndex_2214a_5 : decode cJ2_checkIndex_2214a 5 = .ok (.invokestatic 414, 3) := by decide +kernel
theorem dJ2_checkIndex_2214a_8 : decode cJ2_checkIndex_2214a 8 = .ok (.return_, 1) := by decide +kernel
theorem dJ3_checkIndex_8e157_0 : decode cJ3_checkIndex_8e157 0 = .ok (.iload_n 0, 1) := by decide +kernel
theorem dJ3_checkIndex_8e157_1 : decode cJ3_checkIndex_8e157 1 = .ok (.ifCond .lt 8, 3) := by decide +kernel
theorem dJ3_checkIndex_8e157_4 : decode cJ3_checkIndex_8e157 4 = .ok (.iload_n 0, 1) := by decide +kernel
theorem dJ3_checkIndex_8e157_5 : decode cJ3_checkIndex_8e157 5 = .ok (.iload_n 1, 1) := by decide +kernel
theorem dJ3_checkIndex_8e157_6 : decode cJ3_checkIndex_8e157 6 = .ok (.if_icmp .lt 10, 3) := by decide +kernel
theorem dJ3_checkIndex_8e157_9 : decode cJ3_checkIndex_8e157 9 = .ok (.aload_n 2, 1) := by decide +kernel
theorem dJ3_checkIndex_8e157_10 : decode cJ3_checkIndex_8e157 10 = .ok (.iload_n 0, 1) := by decide +kernel
theorem dJ3_checkIndex_8e157_11 : decode cJ3_checkIndex_8e157 11 = .ok (.iload_n 1, 1) := by decide +kernel
theorem dJ3_checkIndex_8e157_12 : decode cJ3_checkIndex_8e157 12 = .ok (.invokestatic 95, 3) := by decide +kernel
theorem dJ3_checkIndex_8e157_15 : decode cJ3_checkIndex_8e157 15 = .ok (.athrow, 1) := by decide +kernel
theorem dJ3_checkIndex_8e157_16 : decode cJ3_checkIndex_8e157 16 = .ok (.iload_n 0, 1) := by decide +kernel
theorem dJ3_checkIndex_8e157_17 : decode cJ3_checkIndex_8e157 17 = .ok (.ireturn, 1) := by decide +kernel
theorem dJ6_bitCount_0f7a4_0 : decode cJ6_bitCount_0f7a4 0 = .ok (.iload_n 0, 1) := by decide +kernel
theorem dJ6_bitCount_0f7a4_1 : decode cJ6_bitCount_0f7a4 1 = .ok (.iload_n 0, 1) := by decide +kernel
theorem dJ6_bitCount_0f7a4_2 : decode cJ6_bitCount_0f7a4 2 = .ok (.iconst 1, 1) := by decide +kernel
theorem dJ6_bitCount_0f7a4_3 : decode cJ6_bitCount_0f7a4 3 = .ok (.iushr, 1) := by decide +kernel
theorem dJ6_bitCount_0f7a4_4 : decode cJ6_bitCount_0f7a4 4 = .ok (.ldc_w 265, 3) := by decide +kernel
theorem dJ6_bitCount_0f7a4_7 : decode cJ6_bitCount_0f7a4 7 = .ok (.iand, 1) := by decide +kernel
theorem dJ6_bitCount_0f7a4_8 : decode cJ6_bitCount_0f7a4 8 = .ok (.isub, 1) := by decide +kernel
theorem dJ6_bitCount_0f7a4_9 : decode cJ6_bitCount_0f7a4 9 = .ok (.istore_n 0, 1) := by decide +kernel
theorem dJ6_bitCount_0f7a4_10 : decode cJ6_bitCount_0f7a4 10 = .ok (.iload_n 0, 1) := by decide +kernel
theorem dJ6_bitCount_0f7a4_11 : decode cJ6_bitCount_0f7a4 11 = .ok (.ldc_w 266, 3) := by decide +kernel
theorem dJ6_bitCount_0f7a4_14 : decode cJ6_bitCount_0f7a4 14 = .ok (.iand, 1) := by decide +kernel
theorem dJ6_bitCount_0f7a4_15 : decode cJ6_bitCount_0f7a4 15 = .ok (.iload_n 0, 1) := by decide +kernel
theorem dJ6_bitCount_0f7a4_16 : decode cJ6_bitCount_0f7a4 16 = .ok (.iconst 2, 1) := by decide +kernel
theorem dJ6_bitCount_0f7a4_17 : decode cJ6_bitCount_0f7a4 17 = .ok (.iushr, 1) := by decide +kernel
theorem dJ6_bitCount_0f7a4_18 : decode cJ6_bitCount_0f7a4 18 = .ok (.ldc_w 266, 3) := by decide +kernel
theorem dJ6_bitCount_0f7a4_21 : decode cJ6_bitCount_0f7a4 21 = .ok (.iand, 1) := by decide +kernel
theorem dJ6_bitCount_0f7a4_22 : decode cJ6_bitCount_0f7a4 22 = .ok (.iadd, 1) := by decide +kernel
theorem dJ6_bitCount_0f7a4_23 : decode cJ6_bitCount_0f7a4 23 = .ok (.istore_n 0, 1) := by decide +kernel
theorem dJ6_bitCount_0f7a4_24 : decode cJ6_bitCount_0f7a4 24 = .ok (.iload_n 0, 1) := by decide +kernel
theorem dJ6_bitCount_0f7a4_25 : decode cJ6_bitCount_0f7a4 25 = .ok (.iload_n 0, 1) := by decide +kernel
theorem dJ6_bitCount_0f7a4_26 : decode cJ6_bitCount_0f7a4 26 = .ok (.iconst 4, 1) := by decide +kernel
theorem dJ6_bitCount_0f7a4_27 : decode cJ6_bitCount_0f7a4 27 = .ok (.iushr, 1) := by decide +kernel
theorem dJ6_bitCount_0f7a4_28 : decode cJ6_bitCount_0f7a4 28 = .ok (.iadd, 1) := by decide +kernel
theorem dJ6_bitCount_0f7a4_29 : decode cJ6_bitCount_0f7a4 29 = .ok (.ldc_w 267, 3) := by decide +kernel
theorem dJ6_bitCount_0f7a4_32 : decode cJ6_bitCount_0f7a4 32 = .ok (.iand, 1) := by decide +kernel
theorem dJ6_bitCount_0f7a4_33 : decode cJ6_bitCount_0f7a4 33 = .ok (.istore_n 0, 1) := by decide +kernel
theorem dJ6_bitCount_0f7a4_34 : decode cJ6_bitCount_0f7a4 34 = .ok (.iload_n 0, 1) := by decide +kernel
theorem dJ6_bitCount_0f7a4_35 : decode cJ6_bitCount_0f7a4 35 = .ok (.iload_n 0, 1) := by decide +kernel
theorem dJ6_bitCount_0f7a4_36 : decode cJ6_bitCount_0f7a4 36 = .ok (.bipush 8, 2) := by decide +kernel
theorem dJ6_bitCount_0f7a4_38 : decode cJ6_bitCount_0f7a4 38 = .ok (.iushr, 1) := by decide +kernel
theorem dJ6_bitCount_0f7a4_39 : decode cJ6_bitCount_0f7a4 39 = .ok (.iadd, 1) := by decide +kernel
theorem dJ6_bitCount_0f7a4_40 : decode cJ6_bitCount_0f7a4 40 = .ok (.istore_n 0, 1) := by decide +kernel
theorem dJ6_bitCount_0f7a4_41 : decode cJ6_bitCount_0f7a4 41 = .ok (.iload_n 0, 1) := by decide +kernel
theorem dJ6_bitCount_0f7a4_42 : decode cJ6_bitCount_0f7a4 42 = .ok (.iload_n 0, 1) := by decide +kernel
theorem dJ6_bitCount_0f7a4_43 : decode cJ6_bitCount_0f7a4 43 = .ok (.bipush 16, 2) := by decide +kernel
theorem dJ6_bitCount_0f7a4_45 : decode cJ6_bitCount_0f7a4 45 = .ok (.iushr, 1) := by decide +kernel
theorem dJ6_bitCount_0f7a4_46 : decode cJ6_bitCount_0f7a4 46 = .ok (.iadd, 1) := by decide +kernel
theorem dJ6_bitCount_0f7a4_47 : decode cJ6_bitCount_0f7a4 47 = .ok (.istore_n 0, 1) := by decide +kernel
theorem dJ6_bitCount_0f7a4_48 : decode cJ6_bitCount_0f7a4 48 = .ok (.iload_n 0, 1) := by decide +kernel
theorem dJ6_bitCount_0f7a4_49 : decode cJ6_bitCount_0f7a4 49 = .ok (.bipush 63, 2) := by decide +kernel
theorem dJ6_bitCount_0f7a4_51 : decode cJ6_bitCount_0f7a4 51 = .ok (.iand, 1) := by decide +kernel
theorem dJ6_bitCount_0f7a4_52 : decode cJ6_bitCount_0f7a4 52 = .ok (.ireturn, 1) := by decide +kernel
theorem dJ7_fill_53178_0 : decode cJ7_fill_53178 0 = .ok (.iconst 0, 1) := by decide +kernel
theorem dJ7_fill_53178_1 : decode cJ7_fill_53178 1 = .ok (.istore_n 2, 1) := by decide +kernel
theorem dJ7_fill_53178_2 : decode cJ7_fill_53178 2 = .ok (.aload_n 0, 1) := by decide +kernel
theorem dJ7_fill_53178_3 : decode cJ7_fill_53178 3 = .ok (.arraylength, 1) := by decide +kernel
theorem dJ7_fill_53178_4 : decode cJ7_fill_53178 4 = .ok (.istore_n 3, 1) := by decide +kernel
theorem dJ7_fill_53178_5 : decode cJ7_fill_53178 5 = .ok (.iload_n 2, 1) := by decide +kernel
theorem dJ7_fill_53178_6 : decode cJ7_fill_53178 6 = .ok (.iload_n 3, 1) := by decide +kernel
theorem dJ7_fill_53178_7 : decode cJ7_fill_53178 7 = .ok (.if_icmp .ge 13, 3) := by decide +kernel
theorem dJ7_fill_53178_10 : decode cJ7_fill_53178 10 = .ok (.aload_n 0, 1) := by decide +kernel
theorem dJ7_fill_53178_11 : decode cJ7_fill_53178 11 = .ok (.iload_n 2, 1) := by decide +kernel
theorem dJ7_fill_53178_12 : decode cJ7_fill_53178 12 = .ok (.iload_n 1, 1) := by decide +kernel
theorem dJ7_fill_53178_13 : decode cJ7_fill_53178 13 = .ok (.iastore, 1) := by decide +kernel
theorem dJ7_fill_53178_14 : decode cJ7_fill_53178 14 = .ok (.iinc 2 1, 3) := by decide +kernel
theorem dJ7_fill_53178_17 : decode cJ7_fill_53178 17 = .ok (.goto (-12), 3) := by decide +kernel
theorem dJ7_fill_53178_20 : decode cJ7_fill_53178 20 = .ok (.return_, 1) := by decide +kernel
theorem dJ9_abs_0f7a4_0 : decode cJ9_abs_0f7a4 0 = .ok (.iload_n 0, 1) := by decide +kernel
theorem dJ9_abs_0f7a4_1 : decode cJ9_abs_0f7a4 1 = .ok (.ifCond .ge 8, 3) := by decide +kernel
theorem dJ9_abs_0f7a4_4 : decode cJ9_abs_0f7a4 4 = .ok (.iload_n 0, 1) := by decide +kernel
theorem dJ9_abs_0f7a4_5 : decode cJ9_abs_0f7a4 5 = .ok (.ineg, 1) := by decide +kernel
theorem dJ9_abs_0f7a4_6 : decode cJ9_abs_0f7a4 6 = .ok (.goto 4, 3) := by decide +kernel
theorem dJ9_abs_0f7a4_9 : decode cJ9_abs_0f7a4 9 = .ok (.iload_n 0, 1) := by decide +kernel
theorem dJ9_abs_0f7a4_10 : decode cJ9_abs_0f7a4 10 = .ok (.ireturn, 1) := by decide +kernel
theorem dJ9_max_7cf53_0 : decode cJ9_max_7cf53 0 = .ok (.iload_n 0, 1) := by decide +kernel
theorem dJ9_max_7cf53_1 : decode cJ9_max_7cf53 1 = .ok (.iload_n 1, 1) := by decide +kernel
theorem dJ9_max_7cf53_2 : decode cJ9_max_7cf53 2 = .ok (.if_icmp .lt 7, 3) := by decide +kernel
theorem dJ9_max_7cf53_5 : decode cJ9_max_7cf53 5 = .ok (.iload_n 0, 1) := by decide +kernel
theorem dJ9_max_7cf53_6 : decode cJ9_max_7cf53 6 = .ok (.goto 4, 3) := by decide +kernel
theorem dJ9_max_7cf53_9 : decode cJ9_max_7cf53 9 = .ok (.iload_n 1, 1) := by decide +kernel
theorem dJ9_max_7cf53_10 : decode cJ9_max_7cf53 10 = .ok (.ireturn, 1) := by decide +kernel
theorem dJ9_min_7cf53_0 : decode cJ9_min_7cf53 0 = .ok (.iload_n 0, 1) := by decide +kernel
theorem dJ9_min_7cf53_1 : decode cJ9_min_7cf53 1 = .ok (.iload_n 1, 1) := by decide +kernel
theorem dJ9_min_7cf53_2 : decode cJ9_min_7cf53 2 = .ok (.if_icmp .gt 7, 3) := by decide +kernel
theorem dJ9_min_7cf53_5 : decode cJ9_min_7cf53 5 = .ok (.iload_n 0, 1) := by decide +kernel
theorem dJ9_min_7cf53_6 : decode cJ9_min_7cf53 6 = .ok (.goto 4, 3) := by decide +kernel
theorem dJ9_min_7cf53_9 : decode cJ9_min_7cf53 9 = .ok (.iload_n 1, 1) := by decide +kernel
theorem dJ9_min_7cf53_10 : decode cJ9_min_7cf53 10 = .ok (.ireturn, 1) := by decide +kernel
theorem dX4_init_0 : decode cX4_init 0 = .ok (.aload_n 0, 1) := by decide +kernel
theorem dX4_init_1 : decode cX4_init 1 = .ok (.invokespecial 3, 3) := by decide +kernel
theorem dX4_init_4 : decode cX4_init 4 = .ok (.aload_n 0, 1) := by decide +kernel
theorem dX4_init_5 : decode cX4_init 5 = .ok (.iconst 0, 1) := by decide +kernel
theorem dX4_init_6 : decode cX4_init 6 = .ok (.putfield 9, 3) := by decide +kernel
theorem dX4_init_9 : decode cX4_init 9 = .ok (.aload_n 0, 1) := by decide +kernel
theorem dX4_init_10 : decode cX4_init 10 = .ok (.iconst (-1), 1) := by decide +kernel
theorem dX4_init_11 : decode cX4_init 11 = .ok (.putfield 15, 3) := by decide +kernel
theorem dX4_init_14 : decode cX4_init 14 = .ok (.aload_n 0, 1) := by decide +kernel
theorem dX4_init_15 : decode cX4_init 15 = .ok (.iconst 0, 1) := by decide +kernel
theorem dX4_init_16 : decode cX4_init 16 = .ok (.putfield 18, 3) := by decide +kernel
theorem dX4_init_19 : decode cX4_init 19 = .ok (.aload_n 0, 1) := by decide +kernel
theorem dX4_init_20 : decode cX4_init 20 = .ok (.iconst 4, 1) := by decide +kernel
theorem dX4_init_21 : decode cX4_init 21 = .ok (.newarray .int, 2) := by decide +kernel
theorem dX4_init_23 : decode cX4_init 23 = .ok (.putfield 21, 3) := by decide +kernel
theorem dX4_init_26 : decode cX4_init 26 = .ok (.return_, 1) := by decide +kernel
theorem dX4_renew_0 : decode cX4_renew 0 = .ok (.aload_n 0, 1) := by decide +kernel
theorem dX4_renew_1 : decode cX4_renew 1 = .ok (.iload_n 1, 1) := by decide +kernel
theorem dX4_renew_2 : decode cX4_renew 2 = .ok (.putfield 9, 3) := by decide +kernel
theorem dX4_renew_5 : decode cX4_renew 5 = .ok (.aload_n 0, 1) := by decide +kernel
theorem dX4_renew_6 : decode cX4_renew 6 = .ok (.iconst (-1), 1) := by decide +kernel
theorem dX4_renew_7 : decode cX4_renew 7 = .ok (.putfield 15, 3) := by decide +kernel
theorem dX4_renew_10 : decode cX4_renew 10 = .ok (.aload_n 0, 1) := by decide +kernel
theorem dX4_renew_11 : decode cX4_renew 11 = .ok (.iconst 0, 1) := by decide +kernel
theorem dX4_renew_12 : decode cX4_renew 12 = .ok (.putfield 18, 3) := by decide +kernel
theorem dX4_renew_15 : decode cX4_renew 15 = .ok (.aload_n 0, 1) := by decide +kernel
theorem dX4_renew_16 : decode cX4_renew 16 = .ok (.getfield 21, 3) := by decide +kernel
theorem dX4_renew_19 : decode cX4_renew 19 = .ok (.iconst (-1), 1) := by decide +kernel
theorem dX4_renew_20 : decode cX4_renew 20 = .ok (.invokestatic 25, 3) := by decide +kernel
theorem dX4_renew_23 : decode cX4_renew 23 = .ok (.return_, 1) := by decide +kernel
theorem dX4_becomeLike_0 : decode cX4_becomeLike 0 = .ok (.aload_n 0, 1) := by decide +kernel
theorem dX4_becomeLike_1 : decode cX4_becomeLike 1 = .ok (.aload_n 1, 1) := by decide +kernel
theorem dX4_becomeLike_2 : decode cX4_becomeLike 2 = .ok (.getfield 9, 3) := by decide +kernel
theorem dX4_becomeLike_5 : decode cX4_becomeLike 5 = .ok (.putfield 9, 3) := by decide +kernel
theorem dX4_becomeLike_8 : decode cX4_becomeLike 8 = .ok (.aload_n 0, 1) := by decide +kernel
theorem dX4_becomeLike_9 : decode cX4_becomeLike 9 = .ok (.aload_n 1, 1) := by decide +kernel
theorem dX4_becomeLike_10 : decode cX4_becomeLike 10 = .ok (.getfield 15, 3) := by decide +kernel
theorem dX4_becomeLike_13 : decode cX4_becomeLike 13 = .ok (.putfield 15, 3) := by decide +kernel
theorem dX4_becomeLike_16 : decode cX4_becomeLike 16 = .ok (.aload_n 0, 1) := by decide +kernel
theorem dX4_becomeLike_17 : decode cX4_becomeLike 17 = .ok (.aload_n 1, 1) := by decide +kernel
theorem dX4_becomeLike_18 : decode cX4_becomeLike 18 = .ok (.getfield 18, 3) := by decide +kernel
theorem dX4_becomeLike_21 : decode cX4_becomeLike 21 = .ok (.putfield 18, 3) := by decide +kernel
theorem dX4_becomeLike_24 : decode cX4_becomeLike 24 = .ok (.aload_n 1, 1) := by decide +kernel
theorem dX4_becomeLike_25 : decode cX4_becomeLike 25 = .ok (.getfield 21, 3) := by decide +kernel
theorem dX4_becomeLike_28 : decode cX4_becomeLike 28 = .ok (.iconst 0, 1) := by decide +kernel
theorem dX4_becomeLike_29 : decode cX4_becomeLike 29 = .ok (.aload_n 0, 1) := by decide +kernel
theorem dX4_becomeLike_30 : decode cX4_becomeLike 30 = .ok (.getfield 21, 3) := by decide +kernel
theorem dX4_becomeLike_33 : decode cX4_becomeLike 33 = .ok (.iconst 0, 1) := by decide +kernel
theorem dX4_becomeLike_34 : decode cX4_becomeLike 34 = .ok (.iconst 4, 1) := by decide +kernel
theorem dX4_becomeLike_35 : decode cX4_becomeLike 35 = .ok (.invokestatic 31, 3) := by decide +kernel
theorem dX4_becomeLike_38 : decode cX4_becomeLike 38 = .ok (.return_, 1) := by decide +kernel
theorem dX4_isPitched_0 : decode cX4_isPitched 0 = .ok (.aload_n 0, 1) := by decide +kernel
theorem dX4_isPitched_1 : decode cX4_isPitched 1 = .ok (.getfield 15, 3) := by decide +kernel
theorem dX4_isPitched_4 : decode cX4_isPitched 4 = .ok (.invokestatic 37, 3) := by decide +kernel
theorem dX4_isPitched_7 : decode cX4_isPitched 7 = .ok (.ireturn, 1) := by decide +kernel
theorem dX4_trait_0 : decode cX4_trait 0 = .ok (.iload_n 1, 1) := by decide +kernel
theorem dX4_trait_1 : decode cX4_trait 1 = .ok (.tableswitch 51 0 3 #[31, 36, 41, 46], 31) := by decide +kernel
theorem dX4_trait_32 : decode cX4_trait 32 = .ok (.aload_n 0, 1) := by decide +kernel
theorem dX4_trait_33 : decode cX4_trait 33 = .ok (.getfield 9, 3) := by decide +kernel
theorem dX4_trait_36 : decode cX4_trait 36 = .ok (.ireturn, 1) := by decide +kernel
theorem dX4_trait_37 : decode cX4_trait 37 = .ok (.aload_n 0, 1) := by decide +kernel
theorem dX4_trait_38 : decode cX4_trait 38 = .ok (.getfield 15, 3) := by decide +kernel
theorem dX4_trait_41 : decode cX4_trait 41 = .ok (.ireturn, 1) := by decide +kernel
theorem dX4_trait_42 : decode cX4_trait 42 = .ok (.aload_n 0, 1) := by decide +kernel
theorem dX4_trait_43 : decode cX4_trait 43 = .ok (.getfield 18, 3) := by decide +kernel
theorem dX4_trait_46 : decode cX4_trait 46 = .ok (.ireturn, 1) := by decide +kernel
theorem dX4_trait_47 : decode cX4_trait 47 = .ok (.aload_n 0, 1) := by decide +kernel
theorem dX4_trait_48 : decode cX4_trait 48 = .ok (.invokevirtual 41, 3) := by decide +kernel
theorem dX4_trait_51 : decode cX4_trait 51 = .ok (.ireturn, 1) := by decide +kernel
theorem dX4_trait_52 : decode cX4_trait 52 = .ok (.iload_n 1, 1) := by decide +kernel
theorem dX4_trait_53 : decode cX4_trait 53 = .ok (.iconst 4, 1) := by decide +kernel
theorem dX4_trait_54 : decode cX4_trait 54 = .ok (.bipush 7, 2) := by decide +kernel
theorem dX4_trait_56 : decode cX4_trait 56 = .ok (.invokestatic 45, 3) := by decide +kernel
theorem dX4_trait_59 : decode cX4_trait 59 = .ok (.ifCond .eq 14, 3) := by decide +kernel
theorem dX4_trait_62 : decode cX4_trait 62 = .ok (.aload_n 0, 1) := by decide +kernel
theorem dX4_trait_63 : decode cX4_trait 63 = .ok (.getfield 21, 3) := by decide +kernel
theorem dX4_trait_66 : decode cX4_trait 66 = .ok (.iload_n 1, 1) := by decide +kernel
theorem dX4_trait_67 : decode cX4_trait 67 = .ok (.iconst 4, 1) := by decide +kernel
theorem dX4_trait_68 : decode cX4_trait 68 = .ok (.isub, 1) := by decide +kernel
theorem dX4_trait_69 : decode cX4_trait 69 = .ok (.iaload, 1) := by decide +kernel
theorem dX4_trait_70 : decode cX4_trait 70 = .ok (.goto 4, 3) := by decide +kernel
theorem dX4_trait_73 : decode cX4_trait 73 = .ok (.iconst (-1), 1) := by decide +kernel
theorem dX4_trait_74 : decode cX4_trait 74 = .ok (.ireturn, 1) := by decide +kernel
theorem dX4_mayBecome_0 : decode cX4_mayBecome 0 = .ok (.iload_n 0, 1) := by decide +kernel
theorem dX4_mayBecome_1 : decode cX4_mayBecome 1 = .ok (.tableswitch 55 0 2 #[27, 32, 50], 27) := by decide +kernel
theorem dX4_mayBecome_28 : decode cX4_mayBecome 28 = .ok (.iload_n 1, 1) := by decide +kernel
theorem dX4_mayBecome_29 : decode cX4_mayBecome 29 = .ok (.invokestatic 49, 3) := by decide +kernel
theorem dX4_mayBecome_32 : decode cX4_mayBecome 32 = .ok (.ireturn, 1) := by decide +kernel
theorem dX4_mayBecome_33 : decode cX4_mayBecome 33 = .ok (.iload_n 1, 1) := by decide +kernel
theorem dX4_mayBecome_34 : decode cX4_mayBecome 34 = .ok (.iconst (-1), 1) := by decide +kernel
theorem dX4_mayBecome_35 : decode cX4_mayBecome 35 = .ok (.if_icmp .eq 10, 3) := by decide +kernel
theorem dX4_mayBecome_38 : decode cX4_mayBecome 38 = .ok (.iload_n 1, 1) := by decide +kernel
theorem dX4_mayBecome_39 : decode cX4_mayBecome 39 = .ok (.invokestatic 37, 3) := by decide +kernel
theorem dX4_mayBecome_42 : decode cX4_mayBecome 42 = .ok (.ifCond .eq 7, 3) := by decide +kernel
theorem dX4_mayBecome_45 : decode cX4_mayBecome 45 = .ok (.iconst 1, 1) := by decide +kernel
theorem dX4_mayBecome_46 : decode cX4_mayBecome 46 = .ok (.goto 4, 3) := by decide +kernel
theorem dX4_mayBecome_49 : decode cX4_mayBecome 49 = .ok (.iconst 0, 1) := by decide +kernel
theorem dX4_mayBecome_50 : decode cX4_mayBecome 50 = .ok (.ireturn, 1) := by decide +kernel
theorem dX4_mayBecome_51 : decode cX4_mayBecome 51 = .ok (.iload_n 1, 1) := by decide +kernel
theorem dX4_mayBecome_52 : decode cX4_mayBecome 52 = .ok (.invokestatic 52, 3) := by decide +kernel
theorem dX4_mayBecome_55 : decode cX4_mayBecome 55 = .ok (.ireturn, 1) := by decide +kernel
theorem dX4_mayBecome_56 : decode cX4_mayBecome 56 = .ok (.iload_n 0, 1) := by decide +kernel
theorem dX4_mayBecome_57 : decode cX4_mayBecome 57 = .ok (.iconst 4, 1) := by decide +kernel
theorem dX4_mayBecome_58 : decode cX4_mayBecome 58 = .ok (.bipush 7, 2) := by decide +kernel
theorem dX4_mayBecome_60 : decode cX4_mayBecome 60 = .ok (.invokestatic 45, 3) := by decide +kernel
theorem dX4_mayBecome_63 : decode cX4_mayBecome 63 = .ok (.ifCond .eq 19, 3) := by decide +kernel
theorem dX4_mayBecome_66 : decode cX4_mayBecome 66 = .ok (.iload_n 1, 1) := by decide +kernel
theorem dX4_mayBecome_67 : decode cX4_mayBecome 67 = .ok (.iconst (-1), 1) := by decide +kernel
theorem dX4_mayBecome_68 : decode cX4_mayBecome 68 = .ok (.if_icmp .eq 10, 3) := by decide +kernel
theorem dX4_mayBecome_71 : decode cX4_mayBecome 71 = .ok (.iload_n 1, 1) := by decide +kernel
theorem dX4_mayBecome_72 : decode cX4_mayBecome 72 = .ok (.invokestatic 52, 3) := by decide +kernel
theorem dX4_mayBecome_75 : decode cX4_mayBecome 75 = .ok (.ifCond .eq 7, 3) := by decide +kernel
theorem dX4_mayBecome_78 : decode cX4_mayBecome 78 = .ok (.iconst 1, 1) := by decide +kernel
theorem dX4_mayBecome_79 : decode cX4_mayBecome 79 = .ok (.goto 4, 3) := by decide +kernel
theorem dX4_mayBecome_82 : decode cX4_mayBecome 82 = .ok (.iconst 0, 1) := by decide +kernel
theorem dX4_mayBecome_83 : decode cX4_mayBecome 83 = .ok (.ireturn, 1) := by decide +kernel
theorem dX4_setTrait_0 : decode cX4_setTrait 0 = .ok (.iload_n 1, 1) := by decide +kernel
theorem dX4_setTrait_1 : decode cX4_setTrait 1 = .ok (.tableswitch 51 0 2 #[27, 35, 43], 27) := by decide +kernel
theorem dX4_setTrait_28 : decode cX4_setTrait 28 = .ok (.aload_n 0, 1) := by decide +kernel
theorem dX4_setTrait_29 : decode cX4_setTrait 29 = .ok (.iload_n 2, 1) := by decide +kernel
theorem dX4_setTrait_30 : decode cX4_setTrait 30 = .ok (.putfield 9, 3) := by decide +kernel
theorem dX4_setTrait_33 : decode cX4_setTrait 33 = .ok (.goto 38, 3) := by decide +kernel
theorem dX4_setTrait_36 : decode cX4_setTrait 36 = .ok (.aload_n 0, 1) := by decide +kernel
theorem dX4_setTrait_37 : decode cX4_setTrait 37 = .ok (.iload_n 2, 1) := by decide +kernel
theorem dX4_setTrait_38 : decode cX4_setTrait 38 = .ok (.putfield 15, 3) := by decide +kernel
theorem dX4_setTrait_41 : decode cX4_setTrait 41 = .ok (.goto 30, 3) := by decide +kernel
theorem dX4_setTrait_44 : decode cX4_setTrait 44 = .ok (.aload_n 0, 1) := by decide +kernel
theorem dX4_setTrait_45 : decode cX4_setTrait 45 = .ok (.iload_n 2, 1) := by decide +kernel
theorem dX4_setTrait_46 : decode cX4_setTrait 46 = .ok (.putfield 18, 3) := by decide +kernel
theorem dX4_setTrait_49 : decode cX4_setTrait 49 = .ok (.goto 22, 3) := by decide +kernel
theorem dX4_setTrait_52 : decode cX4_setTrait 52 = .ok (.iload_n 1, 1) := by decide +kernel
theorem dX4_setTrait_53 : decode cX4_setTrait 53 = .ok (.iconst 4, 1) := by decide +kernel
theorem dX4_setTrait_54 : decode cX4_setTrait 54 = .ok (.bipush 7, 2) := by decide +kernel
theorem dX4_setTrait_56 : decode cX4_setTrait 56 = .ok (.invokestatic 45, 3) := by decide +kernel
theorem dX4_setTrait_59 : decode cX4_setTrait 59 = .ok (.ifCond .eq 12, 3) := by decide +kernel
theorem dX4_setTrait_62 : decode cX4_setTrait 62 = .ok (.aload_n 0, 1) := by decide +kernel
theorem dX4_setTrait_63 : decode cX4_setTrait 63 = .ok (.getfield 21, 3) := by decide +kernel
theorem dX4_setTrait_66 : decode cX4_setTrait 66 = .ok (.iload_n 1, 1) := by decide +kernel
theorem dX4_setTrait_67 : decode cX4_setTrait 67 = .ok (.iconst 4, 1) := by decide +kernel
theorem dX4_setTrait_68 : decode cX4_setTrait 68 = .ok (.isub, 1) := by decide +kernel
theorem dX4_setTrait_69 : decode cX4_setTrait 69 = .ok (.iload_n 2, 1) := by decide +kernel
theorem dX4_setTrait_70 : decode cX4_setTrait 70 = .ok (.iastore, 1) := by decide +kernel
theorem dX4_setTrait_71 : decode cX4_setTrait 71 = .ok (.return_, 1) := by decide +kernel
theorem dX4_forget_0 : decode cX4_forget 0 = .ok (.iconst 0, 1) := by decide +kernel
theorem dX4_forget_1 : decode cX4_forget 1 = .ok (.istore_n 1, 1) := by decide +kernel
theorem dX4_forget_2 : decode cX4_forget 2 = .ok (.iconst 0, 1) := by decide +kernel
theorem dX4_forget_3 : decode cX4_forget 3 = .ok (.istore_n 2, 1) := by decide +kernel
theorem dX4_forget_4 : decode cX4_forget 4 = .ok (.iload_n 2, 1) := by decide +kernel
theorem dX4_forget_5 : decode cX4_forget 5 = .ok (.iconst 4, 1) := by decide +kernel
theorem dX4_forget_6 : decode cX4_forget 6 = .ok (.if_icmp .ge 29, 3) := by decide +kernel
theorem dX4_forget_9 : decode cX4_forget 9 = .ok (.aload_n 0, 1) := by decide +kernel
theorem dX4_forget_10 : decode cX4_forget 10 = .ok (.getfield 21, 3) := by decide +kernel
theorem dX4_forget_13 : decode cX4_forget 13 = .ok (.iload_n 2, 1) := by decide +kernel
theorem dX4_forget_14 : decode cX4_forget 14 = .ok (.iaload, 1) := by decide +kernel
theorem dX4_forget_15 : decode cX4_forget 15 = .ok (.iconst (-1), 1) := by decide +kernel
theorem dX4_forget_16 : decode cX4_forget 16 = .ok (.if_icmp .eq 13, 3) := by decide +kernel
theorem dX4_forget_19 : decode cX4_forget 19 = .ok (.iinc 1 1, 3) := by decide +kernel
theorem dX4_forget_22 : decode cX4_forget 22 = .ok (.aload_n 0, 1) := by decide +kernel
theorem dX4_forget_23 : decode cX4_forget 23 = .ok (.getfield 21, 3) := by decide +kernel
theorem dX4_forget_26 : decode cX4_forget 26 = .ok (.iload_n 2, 1) := by decide +kernel
theorem dX4_forget_27 : decode cX4_forget 27 = .ok (.iconst (-1), 1) := by decide +kernel
theorem dX4_forget_28 : decode cX4_forget 28 = .ok (.iastore, 1) := by decide +kernel
theorem dX4_forget_29 : decode cX4_forget 29 = .ok (.iinc 2 1, 3) := by decide +kernel
theorem dX4_forget_32 : decode cX4_forget 32 = .ok (.goto (-28), 3) := by decide +kernel
theorem dX4_forget_35 : decode cX4_forget 35 = .ok (.iload_n 1, 1) := by decide +kernel
theorem dX4_forget_36 : decode cX4_forget 36 = .ok (.ireturn, 1) := by decide +kernel
theorem dX4_keepsNear_0 : decode cX4_keepsNear 0 = .ok (.iconst 0, 1) := by decide +kernel
theorem dX4_keepsNear_1 : decode cX4_keepsNear 1 = .ok (.istore_n 3, 1) := by decide +kernel
theorem dX4_keepsNear_2 : decode cX4_keepsNear 2 = .ok (.iload_n 3, 1) := by decide +kernel
theorem dX4_keepsNear_3 : decode cX4_keepsNear 3 = .ok (.iconst 4, 1) := by decide +kernel
theorem dX4_keepsNear_4 : decode cX4_keepsNear 4 = .ok (.if_icmp .ge 36, 3) := by decide +kernel
theorem dX4_keepsNear_7 : decode cX4_keepsNear 7 = .ok (.aload_n 0, 1) := by decide +kernel
theorem dX4_keepsNear_8 : decode cX4_keepsNear 8 = .ok (.getfield 21, 3) := by decide +kernel
theorem dX4_keepsNear_11 : decode cX4_keepsNear 11 = .ok (.iload_n 3, 1) := by decide +kernel
theorem dX4_keepsNear_12 : decode cX4_keepsNear 12 = .ok (.iaload, 1) := by decide +kernel
theorem dX4_keepsNear_13 : decode cX4_keepsNear 13 = .ok (.iconst (-1), 1) := by decide +kernel
theorem dX4_keepsNear_14 : decode cX4_keepsNear 14 = .ok (.if_icmp .eq 18, 3) := by decide +kernel
theorem dX4_keepsNear_17 : decode cX4_keepsNear 17 = .ok (.aload_n 0, 1) := by decide +kernel
theorem dX4_keepsNear_18 : decode cX4_keepsNear 18 = .ok (.getfield 21, 3) := by decide +kernel
theorem dX4_keepsNear_21 : decode cX4_keepsNear 21 = .ok (.iload_n 3, 1) := by decide +kernel
theorem dX4_keepsNear_22 : decode cX4_keepsNear 22 = .ok (.iaload, 1) := by decide +kernel
theorem dX4_keepsNear_23 : decode cX4_keepsNear 23 = .ok (.iload_n 1, 1) := by decide +kernel
theorem dX4_keepsNear_24 : decode cX4_keepsNear 24 = .ok (.isub, 1) := by decide +kernel
theorem dX4_keepsNear_25 : decode cX4_keepsNear 25 = .ok (.invokestatic 55, 3) := by decide +kernel
theorem dX4_keepsNear_28 : decode cX4_keepsNear 28 = .ok (.iload_n 2, 1) := by decide +kernel
theorem dX4_keepsNear_29 : decode cX4_keepsNear 29 = .ok (.if_icmp .le 5, 3) := by decide +kernel
theorem dX4_keepsNear_32 : decode cX4_keepsNear 32 = .ok (.iconst 0, 1) := by decide +kernel
theorem dX4_keepsNear_33 : decode cX4_keepsNear 33 = .ok (.ireturn, 1) := by decide +kernel
theorem dX4_keepsNear_34 : decode cX4_keepsNear 34 = .ok (.iinc 3 1, 3) := by decide +kernel
theorem dX4_keepsNear_37 : decode cX4_keepsNear 37 = .ok (.goto (-35), 3) := by decide +kernel
theorem dX4_keepsNear_40 : decode cX4_keepsNear 40 = .ok (.iconst 1, 1) := by decide +kernel
theorem dX4_keepsNear_41 : decode cX4_keepsNear 41 = .ok (.ireturn, 1) := by decide +kernel
theorem dX4_wearOut_0 : decode cX4_wearOut 0 = .ok (.aload_n 0, 1) := by decide +kernel
theorem dX4_wearOut_1 : decode cX4_wearOut 1 = .ok (.bipush 99, 2) := by decide +kernel
theorem dX4_wearOut_3 : decode cX4_wearOut 3 = .ok (.aload_n 0, 1) := by decide +kernel
theorem dX4_wearOut_4 : decode cX4_wearOut 4 = .ok (.getfield 18, 3) := by decide +kernel
theorem dX4_wearOut_7 : decode cX4_wearOut 7 = .ok (.aload_n 0, 1) := by decide +kernel
theorem dX4_wearOut_8 : decode cX4_wearOut 8 = .ok (.invokevirtual 41, 3) := by decide +kernel
theorem dX4_wearOut_11 : decode cX4_wearOut 11 = .ok (.iadd, 1) := by decide +kernel
theorem dX4_wearOut_12 : decode cX4_wearOut 12 = .ok (.invokestatic 61, 3) := by decide +kernel
theorem dX4_wearOut_15 : decode cX4_wearOut 15 = .ok (.putfield 18, 3) := by decide +kernel
theorem dX4_wearOut_18 : decode cX4_wearOut 18 = .ok (.return_, 1) := by decide +kernel
theorem dX4_wear_0 : decode cX4_wear 0 = .ok (.aload_n 0, 1) := by decide +kernel
theorem dX4_wear_1 : decode cX4_wear 1 = .ok (.getfield 9, 3) := by decide +kernel
theorem dX4_wear_4 : decode cX4_wear 4 = .ok (.tableswitch 48 1 6 #[40, 48, 48, 44, 46, 42], 40) := by decide +kernel
theorem dX4_wear_44 : decode cX4_wear 44 = .ok (.iconst 2, 1) := by decide +kernel
theorem dX4_wear_45 : decode cX4_wear 45 = .ok (.ireturn, 1) := by decide +kernel
theorem dX4_wear_46 : decode cX4_wear 46 = .ok (.iconst 4, 1) := by decide +kernel
theorem dX4_wear_47 : decode cX4_wear 47 = .ok (.ireturn, 1) := by decide +kernel
theorem dX4_wear_48 : decode cX4_wear 48 = .ok (.iconst 0, 1) := by decide +kernel
theorem dX4_wear_49 : decode cX4_wear 49 = .ok (.ireturn, 1) := by decide +kernel
theorem dX4_wear_50 : decode cX4_wear 50 = .ok (.iconst 5, 1) := by decide +kernel
theorem dX4_wear_51 : decode cX4_wear 51 = .ok (.ireturn, 1) := by decide +kernel
theorem dX4_wear_52 : decode cX4_wear 52 = .ok (.iconst 1, 1) := by decide +kernel
theorem dX4_wear_53 : decode cX4_wear 53 = .ok (.ireturn, 1) := by decide +kernel
theorem dX4_pressed_0 : decode cX4_pressed 0 = .ok (.aload_n 0, 1) := by decide +kernel
theorem dX4_pressed_1 : decode cX4_pressed 1 = .ok (.getfield 9, 3) := by decide +kernel
theorem dX4_pressed_4 : decode cX4_pressed 4 = .ok (.tableswitch 80 1 6 #[40, 51, 53, 59, 72, 42], 40) := by decide +kernel
theorem dX4_pressed_44 : decode cX4_pressed 44 = .ok (.iload_n 1, 1) := by decide +kernel
theorem dX4_pressed_45 : decode cX4_pressed 45 = .ok (.ireturn, 1) := by decide +kernel
theorem dX4_pressed_46 : decode cX4_pressed 46 = .ok (.bipush 99, 2) := by decide +kernel
theorem dX4_pressed_48 : decode cX4_pressed 48 = .ok (.iload_n 1, 1) := by decide +kernel
theorem dX4_pressed_49 : decode cX4_pressed 49 = .ok (.iconst 1, 1) := by decide +kernel
theorem dX4_pressed_50 : decode cX4_pressed 50 = .ok (.iadd, 1) := by decide +kernel
theorem dX4_pressed_51 : decode cX4_pressed 51 = .ok (.invokestatic 61, 3) := by decide +kernel
theorem dX4_pressed_54 : decode cX4_pressed 54 = .ok (.ireturn, 1) := by decide +kernel
theorem dX4_pressed_55 : decode cX4_pressed 55 = .ok (.iload_n 2, 1) := by decide +kernel
theorem dX4_pressed_56 : decode cX4_pressed 56 = .ok (.ireturn, 1) := by decide +kernel
theorem dX4_pressed_57 : decode cX4_pressed 57 = .ok (.iload_n 1, 1) := by decide +kernel
theorem dX4_pressed_58 : decode cX4_pressed 58 = .ok (.iload_n 2, 1) := by decide +kernel
theorem dX4_pressed_59 : decode cX4_pressed 59 = .ok (.invokestatic 65, 3) := by decide +kernel
theorem dX4_pressed_62 : decode cX4_pressed 62 = .ok (.ireturn, 1) := by decide +kernel
theorem dX4_pressed_63 : decode cX4_pressed 63 = .ok (.bipush 99, 2) := by decide +kernel
theorem dX4_pressed_65 : decode cX4_pressed 65 = .ok (.iload_n 1, 1) := by decide +kernel
theorem dX4_pressed_66 : decode cX4_pressed 66 = .ok (.iload_n 2, 1) := by decide +kernel
theorem dX4_pressed_67 : decode cX4_pressed 67 = .ok (.invokestatic 65, 3) := by decide +kernel
theorem dX4_pressed_70 : decode cX4_pressed 70 = .ok (.iconst 3, 1) := by decide +kernel
theorem dX4_pressed_71 : decode cX4_pressed 71 = .ok (.iadd, 1) := by decide +kernel
theorem dX4_pressed_72 : decode cX4_pressed 72 = .ok (.invokestatic 61, 3) := by decide +kernel
theorem dX4_pressed_75 : decode cX4_pressed 75 = .ok (.ireturn, 1) := by decide +kernel
theorem dX4_pressed_76 : decode cX4_pressed 76 = .ok (.iload_n 1, 1) := by decide +kernel
theorem dX4_pressed_77 : decode cX4_pressed 77 = .ok (.iconst 3, 1) := by decide +kernel
theorem dX4_pressed_78 : decode cX4_pressed 78 = .ok (.iload_n 2, 1) := by decide +kernel
theorem dX4_pressed_79 : decode cX4_pressed 79 = .ok (.imul, 1) := by decide +kernel
theorem dX4_pressed_80 : decode cX4_pressed 80 = .ok (.iadd, 1) := by decide +kernel
theorem dX4_pressed_81 : decode cX4_pressed 81 = .ok (.iconst 4, 1) := by decide +kernel
theorem dX4_pressed_82 : decode cX4_pressed 82 = .ok (.idiv, 1) := by decide +kernel
theorem dX4_pressed_83 : decode cX4_pressed 83 = .ok (.ireturn, 1) := by decide +kernel
theorem dX4_pressed_84 : decode cX4_pressed 84 = .ok (.iload_n 1, 1) := by decide +kernel
theorem dX4_pressed_85 : decode cX4_pressed 85 = .ok (.iload_n 2, 1) := by decide +kernel
theorem dX4_pressed_86 : decode cX4_pressed 86 = .ok (.iadd, 1) := by decide +kernel
theorem dX4_pressed_87 : decode cX4_pressed 87 = .ok (.iconst 2, 1) := by decide +kernel
theorem dX4_pressed_88 : decode cX4_pressed 88 = .ok (.idiv, 1) := by decide +kernel
theorem dX4_pressed_89 : decode cX4_pressed 89 = .ok (.ireturn, 1) := by decide +kernel
theorem dX4_patchedPress_0 : decode cX4_patchedPress 0 = .ok (.iload_n 0, 1) := by decide +kernel
theorem dX4_patchedPress_1 : decode cX4_patchedPress 1 = .ok (.iload_n 1, 1) := by decide +kernel
theorem dX4_patchedPress_2 : decode cX4_patchedPress 2 = .ok (.if_icmp .le 9, 3) := by decide +kernel
theorem dX4_patchedPress_5 : decode cX4_patchedPress 5 = .ok (.iload_n 1, 1) := by decide +kernel
theorem dX4_patchedPress_6 : decode cX4_patchedPress 6 = .ok (.iconst 1, 1) := by decide +kernel
theorem dX4_patchedPress_7 : decode cX4_patchedPress 7 = .ok (.iadd, 1) := by decide +kernel
theorem dX4_patchedPress_8 : decode cX4_patchedPress 8 = .ok (.goto 4, 3) := by decide +kernel
theorem dX4_patchedPress_11 : decode cX4_patchedPress 11 = .ok (.iload_n 1, 1) := by decide +kernel
theorem dX4_patchedPress_12 : decode cX4_patchedPress 12 = .ok (.ireturn, 1) := by decide +kernel
theorem dX4_taken_0 : decode cX4_taken 0 = .ok (.aload_n 0, 1) := by decide +kernel
theorem dX4_taken_1 : decode cX4_taken 1 = .ok (.getfield 9, 3) := by decide +kernel
theorem dX4_taken_4 : decode cX4_taken 4 = .ok (.tableswitch 74 1 6 #[40, 44, 74, 46, 59, 42], 40) := by decide +kernel
theorem dX4_taken_44 : decode cX4_taken 44 = .ok (.iload_n 1, 1) := by decide +kernel
theorem dX4_taken_45 : decode cX4_taken 45 = .ok (.ireturn, 1) := by decide +kernel
theorem dX4_taken_46 : decode cX4_taken 46 = .ok (.iload_n 1, 1) := by decide +kernel
theorem dX4_taken_47 : decode cX4_taken 47 = .ok (.ireturn, 1) := by decide +kernel
theorem dX4_taken_48 : decode cX4_taken 48 = .ok (.iload_n 2, 1) := by decide +kernel
theorem dX4_taken_49 : decode cX4_taken 49 = .ok (.ireturn, 1) := by decide +kernel
theorem dX4_taken_50 : decode cX4_taken 50 = .ok (.bipush 99, 2) := by decide +kernel
theorem dX4_taken_52 : decode cX4_taken 52 = .ok (.iload_n 2, 1) := by decide +kernel
theorem dX4_taken_53 : decode cX4_taken 53 = .ok (.iload_n 1, 1) := by decide +kernel
theorem dX4_taken_54 : decode cX4_taken 54 = .ok (.iadd, 1) := by decide +kernel
theorem dX4_taken_55 : decode cX4_taken 55 = .ok (.iconst 2, 1) := by decide +kernel
theorem dX4_taken_56 : decode cX4_taken 56 = .ok (.idiv, 1) := by decide +kernel
theorem dX4_taken_57 : decode cX4_taken 57 = .ok (.iconst 1, 1) := by decide +kernel
theorem dX4_taken_58 : decode cX4_taken 58 = .ok (.iadd, 1) := by decide +kernel
theorem dX4_taken_59 : decode cX4_taken 59 = .ok (.invokestatic 61, 3) := by decide +kernel
theorem dX4_taken_62 : decode cX4_taken 62 = .ok (.ireturn, 1) := by decide +kernel
theorem dX4_taken_63 : decode cX4_taken 63 = .ok (.aload_n 0, 1) := by decide +kernel
theorem dX4_taken_64 : decode cX4_taken 64 = .ok (.getfield 18, 3) := by decide +kernel
theorem dX4_taken_67 : decode cX4_taken 67 = .ok (.bipush 50, 2) := by decide +kernel
theorem dX4_taken_69 : decode cX4_taken 69 = .ok (.if_icmp .ge 7, 3) := by decide +kernel
theorem dX4_taken_72 : decode cX4_taken 72 = .ok (.iload_n 1, 1) := by decide +kernel
theorem dX4_taken_73 : decode cX4_taken 73 = .ok (.goto 4, 3) := by decide +kernel
theorem dX4_taken_76 : decode cX4_taken 76 = .ok (.iload_n 2, 1) := by decide +kernel
theorem dX4_taken_77 : decode cX4_taken 77 = .ok (.ireturn, 1) := by decide +kernel
theorem dX4_taken_78 : decode cX4_taken 78 = .ok (.iload_n 1, 1) := by decide +kernel
theorem dX4_taken_79 : decode cX4_taken 79 = .ok (.iload_n 2, 1) := by decide +kernel
theorem dX4_taken_80 : decode cX4_taken 80 = .ok (.iadd, 1) := by decide +kernel
theorem dX4_taken_81 : decode cX4_taken 81 = .ok (.iconst 2, 1) := by decide +kernel
theorem dX4_taken_82 : decode cX4_taken 82 = .ok (.idiv, 1) := by decide +kernel
theorem dX4_taken_83 : decode cX4_taken 83 = .ok (.ireturn, 1) := by decide +kernel
theorem dX4_isUnder_0 : decode cX4_isUnder 0 = .ok (.iload_n 0, 1) := by decide +kernel
theorem dX4_isUnder_1 : decode cX4_isUnder 1 = .ok (.istore_n 2, 1) := by decide +kernel
theorem dX4_isUnder_2 : decode cX4_isUnder 2 = .ok (.iconst 0, 1) := by decide +kernel
theorem dX4_isUnder_3 : decode cX4_isUnder 3 = .ok (.istore_n 3, 1) := by decide +kernel
theorem dX4_isUnder_4 : decode cX4_isUnder 4 = .ok (.iload_n 3, 1) := by decide +kernel
theorem dX4_isUnder_5 : decode cX4_isUnder 5 = .ok (.bipush 7, 2) := by decide +kernel
theorem dX4_isUnder_7 : decode cX4_isUnder 7 = .ok (.if_icmp .ge 26, 3) := by decide +kernel
theorem dX4_isUnder_10 : decode cX4_isUnder 10 = .ok (.iload_n 2, 1) := by decide +kernel
theorem dX4_isUnder_11 : decode cX4_isUnder 11 = .ok (.iconst (-1), 1) := by decide +kernel
theorem dX4_isUnder_12 : decode cX4_isUnder 12 = .ok (.if_icmp .eq 21, 3) := by decide +kernel
theorem dX4_isUnder_15 : decode cX4_isUnder 15 = .ok (.iload_n 2, 1) := by decide +kernel
theorem dX4_isUnder_16 : decode cX4_isUnder 16 = .ok (.iload_n 1, 1) := by decide +kernel
theorem dX4_isUnder_17 : decode cX4_isUnder 17 = .ok (.if_icmp .ne 5, 3) := by decide +kernel
theorem dX4_isUnder_20 : decode cX4_isUnder 20 = .ok (.iconst 1, 1) := by decide +kernel
theorem dX4_isUnder_21 : decode cX4_isUnder 21 = .ok (.ireturn, 1) := by decide +kernel
theorem dX4_isUnder_22 : decode cX4_isUnder 22 = .ok (.iload_n 2, 1) := by decide +kernel
theorem dX4_isUnder_23 : decode cX4_isUnder 23 = .ok (.invokestatic 68, 3) := by decide +kernel
theorem dX4_isUnder_26 : decode cX4_isUnder 26 = .ok (.istore_n 2, 1) := by decide +kernel
theorem dX4_isUnder_27 : decode cX4_isUnder 27 = .ok (.iinc 3 1, 3) := by decide +kernel
theorem dX4_isUnder_30 : decode cX4_isUnder 30 = .ok (.goto (-26), 3) := by decide +kernel
theorem dX4_isUnder_33 : decode cX4_isUnder 33 = .ok (.iconst 0, 1) := by decide +kernel
theorem dX4_isUnder_34 : decode cX4_isUnder 34 = .ok (.ireturn, 1) := by decide +kernel
theorem dX4_kindAbove_0 : decode cX4_kindAbove 0 = .ok (.iload_n 0, 1) := by decide +kernel
theorem dX4_kindAbove_1 : decode cX4_kindAbove 1 = .ok (.tableswitch 51 1 6 #[39, 41, 45, 47, 43, 49], 39) := by decide +kernel
theorem dX4_kindAbove_40 : decode cX4_kindAbove 40 = .ok (.iconst 0, 1) := by decide +kernel
theorem dX4_kindAbove_41 : decode cX4_kindAbove 41 = .ok (.ireturn, 1) := by decide +kernel
theorem dX4_kindAbove_42 : decode cX4_kindAbove 42 = .ok (.iconst 0, 1) := by decide +kernel
theorem dX4_kindAbove_43 : decode cX4_kindAbove 43 = .ok (.ireturn, 1) := by decide +kernel
theorem dX4_kindAbove_44 : decode cX4_kindAbove 44 = .ok (.iconst 0, 1) := by decide +kernel
theorem dX4_kindAbove_45 : decode cX4_kindAbove 45 = .ok (.ireturn, 1) := by decide +kernel
theorem dX4_kindAbove_46 : decode cX4_kindAbove 46 = .ok (.iconst 2, 1) := by decide +kernel
theorem dX4_kindAbove_47 : decode cX4_kindAbove 47 = .ok (.ireturn, 1) := by decide +kernel
theorem dX4_kindAbove_48 : decode cX4_kindAbove 48 = .ok (.iconst 3, 1) := by decide +kernel
theorem dX4_kindAbove_49 : decode cX4_kindAbove 49 = .ok (.ireturn, 1) := by decide +kernel
theorem dX4_kindAbove_50 : decode cX4_kindAbove 50 = .ok (.iconst 1, 1) := by decide +kernel
theorem dX4_kindAbove_51 : decode cX4_kindAbove 51 = .ok (.ireturn, 1) := by decide +kernel
theorem dX4_kindAbove_52 : decode cX4_kindAbove 52 = .ok (.iconst (-1), 1) := by decide +kernel
theorem dX4_kindAbove_53 : decode cX4_kindAbove 53 = .ok (.ireturn, 1) := by decide +kernel
theorem dX2_init_0 : decode cX2_init 0 = .ok (.aload_n 0, 1) := by decide +kernel
theorem dX2_init_1 : decode cX2_init 1 = .ok (.invokespecial 3, 3) := by decide +kernel
theorem dX2_init_4 : decode cX2_init 4 = .ok (.aload_n 0, 1) := by decide +kernel
theorem dX2_init_5 : decode cX2_init 5 = .ok (.iconst 0, 1) := by decide +kernel
theorem dX2_init_6 : decode cX2_init 6 = .ok (.putfield 9, 3) := by decide +kernel
theorem dX2_init_9 : decode cX2_init 9 = .ok (.aload_n 0, 1) := by decide +kernel
theorem dX2_init_10 : decode cX2_init 10 = .ok (.iconst 0, 1) := by decide +kernel
theorem dX2_init_11 : decode cX2_init 11 = .ok (.putfield 15, 3) := by decide +kernel
theorem dX2_init_14 : decode cX2_init 14 = .ok (.aload_n 0, 1) := by decide +kernel
theorem dX2_init_15 : decode cX2_init 15 = .ok (.bipush 40, 2) := by decide +kernel
theorem dX2_init_17 : decode cX2_init 17 = .ok (.newarray .int, 2) := by decide +kernel
theorem dX2_init_19 : decode cX2_init 19 = .ok (.putfield 18, 3) := by decide +kernel
theorem dX2_init_22 : decode cX2_init 22 = .ok (.return_, 1) := by decide +kernel
theorem dX2_isMissing_0 : decode cX2_isMissing 0 = .ok (.aload_n 0, 1) := by decide +kernel
theorem dX2_isMissing_1 : decode cX2_isMissing 1 = .ok (.getfield 9, 3) := by decide +kernel
theorem dX2_isMissing_4 : decode cX2_isMissing 4 = .ok (.ifCond .ne 7, 3) := by decide +kernel
theorem dX2_isMissing_7 : decode cX2_isMissing 7 = .ok (.iconst 1, 1) := by decide +kernel
theorem dX2_isMissing_8 : decode cX2_isMissing 8 = .ok (.goto 4, 3) := by decide +kernel
theorem dX2_isMissing_11 : decode cX2_isMissing 11 = .ok (.iconst 0, 1) := by decide +kernel
theorem dX2_isMissing_12 : decode cX2_isMissing 12 = .ok (.ireturn, 1) := by decide +kernel
theorem dX2_renew_0 : decode cX2_renew 0 = .ok (.aload_n 0, 1) := by decide +kernel
theorem dX2_renew_1 : decode cX2_renew 1 = .ok (.iload_n 1, 1) := by decide +kernel
theorem dX2_renew_2 : decode cX2_renew 2 = .ok (.putfield 9, 3) := by decide +kernel
theorem dX2_renew_5 : decode cX2_renew 5 = .ok (.aload_n 0, 1) := by decide +kernel
theorem dX2_renew_6 : decode cX2_renew 6 = .ok (.iload_n 2, 1) := by decide +kernel
theorem dX2_renew_7 : decode cX2_renew 7 = .ok (.putfield 15, 3) := by decide +kernel
theorem dX2_renew_10 : decode cX2_renew 10 = .ok (.aload_n 0, 1) := by decide +kernel
theorem dX2_renew_11 : decode cX2_renew 11 = .ok (.getfield 18, 3) := by decide +kernel
theorem dX2_renew_14 : decode cX2_renew 14 = .ok (.iconst 0, 1) := by decide +kernel
theorem dX2_renew_15 : decode cX2_renew 15 = .ok (.invokestatic 22, 3) := by decide +kernel
theorem dX2_renew_18 : decode cX2_renew 18 = .ok (.return_, 1) := by decide +kernel
theorem dX2_put_0 : decode cX2_put 0 = .ok (.aload_n 0, 1) := by decide +kernel
theorem dX2_put_1 : decode cX2_put 1 = .ok (.getfield 9, 3) := by decide +kernel
theorem dX2_put_4 : decode cX2_put 4 = .ok (.lookupswitch 50 #[(8, 28), (16, 39)], 28) := by decide +kernel
theorem dX2_put_32 : decode cX2_put 32 = .ok (.aload_n 0, 1) := by decide +kernel
theorem dX2_put_33 : decode cX2_put 33 = .ok (.getfield 18, 3) := by decide +kernel
theorem dX2_put_36 : decode cX2_put 36 = .ok (.iload_n 1, 1) := by decide +kernel
theorem dX2_put_37 : decode cX2_put 37 = .ok (.iload_n 2, 1) := by decide +kernel
theorem dX2_put_38 : decode cX2_put 38 = .ok (.i2b, 1) := by decide +kernel
theorem dX2_put_39 : decode cX2_put 39 = .ok (.iastore, 1) := by decide +kernel
theorem dX2_put_40 : decode cX2_put 40 = .ok (.goto 21, 3) := by decide +kernel
theorem dX2_put_43 : decode cX2_put 43 = .ok (.aload_n 0, 1) := by decide +kernel
theorem dX2_put_44 : decode cX2_put 44 = .ok (.getfield 18, 3) := by decide +kernel
theorem dX2_put_47 : decode cX2_put 47 = .ok (.iload_n 1, 1) := by decide +kernel
theorem dX2_put_48 : decode cX2_put 48 = .ok (.iload_n 2, 1) := by decide +kernel
theorem dX2_put_49 : decode cX2_put 49 = .ok (.i2s, 1) := by decide +kernel
theorem dX2_put_50 : decode cX2_put 50 = .ok (.iastore, 1) := by decide +kernel
theorem dX2_put_51 : decode cX2_put 51 = .ok (.goto 10, 3) := by decide +kernel
theorem dX2_put_54 : decode cX2_put 54 = .ok (.aload_n 0, 1) := by decide +kernel
theorem dX2_put_55 : decode cX2_put 55 = .ok (.getfield 18, 3) := by decide +kernel
theorem dX2_put_58 : decode cX2_put 58 = .ok (.iload_n 1, 1) := by decide +kernel
theorem dX2_put_59 : decode cX2_put 59 = .ok (.iload_n 2, 1) := by decide +kernel
theorem dX2_put_60 : decode cX2_put 60 = .ok (.iastore, 1) := by decide +kernel
theorem dX2_put_61 : decode cX2_put 61 = .ok (.return_, 1) := by decide +kernel
theorem dX2_hasRun_0 : decode cX2_hasRun 0 = .ok (.iload_n 1, 1) := by decide +kernel
theorem dX2_hasRun_1 : decode cX2_hasRun 1 = .ok (.ifCond .lt 29, 3) := by decide +kernel
theorem dX2_hasRun_4 : decode cX2_hasRun 4 = .ok (.iload_n 2, 1) := by decide +kernel
theorem dX2_hasRun_5 : decode cX2_hasRun 5 = .ok (.ifCond .lt 25, 3) := by decide +kernel
theorem dX2_hasRun_8 : decode cX2_hasRun 8 = .ok (.iload_n 2, 1) := by decide +kernel
theorem dX2_hasRun_9 : decode cX2_hasRun 9 = .ok (.aload_n 0, 1) := by decide +kernel
theorem dX2_hasRun_10 : decode cX2_hasRun 10 = .ok (.getfield 15, 3) := by decide +kernel
theorem dX2_hasRun_13 : decode cX2_hasRun 13 = .ok (.if_icmp .gt 17, 3) := by decide +kernel
theorem dX2_hasRun_16 : decode cX2_hasRun 16 = .ok (.iload_n 1, 1) := by decide +kernel
theorem dX2_hasRun_17 : decode cX2_hasRun 17 = .ok (.aload_n 0, 1) := by decide +kernel
theorem dX2_hasRun_18 : decode cX2_hasRun 18 = .ok (.getfield 15, 3) := by decide +kernel
theorem dX2_hasRun_21 : decode cX2_hasRun 21 = .ok (.iload_n 2, 1) := by decide +kernel
theorem dX2_hasRun_22 : decode cX2_hasRun 22 = .ok (.isub, 1) := by decide +kernel
theorem dX2_hasRun_23 : decode cX2_hasRun 23 = .ok (.if_icmp .gt 7, 3) := by decide +kernel
theorem dX2_hasRun_26 : decode cX2_hasRun 26 = .ok (.iconst 1, 1) := by decide +kernel
theorem dX2_hasRun_27 : decode cX2_hasRun 27 = .ok (.goto 4, 3) := by decide +kernel
theorem dX2_hasRun_30 : decode cX2_hasRun 30 = .ok (.iconst 0, 1) := by decide +kernel
theorem dX2_hasRun_31 : decode cX2_hasRun 31 = .ok (.ireturn, 1) := by decide +kernel
theorem dX2_tells_0 : decode cX2_tells 0 = .ok (.iconst 0, 1) := by decide +kernel
theorem dX2_tells_1 : decode cX2_tells 1 = .ok (.istore_n 2, 1) := by decide +kernel
theorem dX2_tells_2 : decode cX2_tells 2 = .ok (.iload_n 2, 1) := by decide +kernel
theorem dX2_tells_3 : decode cX2_tells 3 = .ok (.iconst 4, 1) := by decide +kernel
theorem dX2_tells_4 : decode cX2_tells 4 = .ok (.if_icmp .ge 41, 3) := by decide +kernel
theorem dX2_tells_7 : decode cX2_tells 7 = .ok (.iload_n 2, 1) := by decide +kernel
theorem dX2_tells_8 : decode cX2_tells 8 = .ok (.aload_n 0, 1) := by decide +kernel
theorem dX2_tells_9 : decode cX2_tells 9 = .ok (.getfield 15, 3) := by decide +kernel
theorem dX2_tells_12 : decode cX2_tells 12 = .ok (.if_icmp .ge 33, 3) := by decide +kernel
theorem dX2_tells_15 : decode cX2_tells 15 = .ok (.aload_n 0, 1) := by decide +kernel
theorem dX2_tells_16 : decode cX2_tells 16 = .ok (.getfield 18, 3) := by decide +kernel
theorem dX2_tells_19 : decode cX2_tells 19 = .ok (.iload_n 2, 1) := by decide +kernel
theorem dX2_tells_20 : decode cX2_tells 20 = .ok (.iaload, 1) := by decide +kernel
theorem dX2_tells_21 : decode cX2_tells 21 = .ok (.iconst (-1), 1) := by decide +kernel
theorem dX2_tells_22 : decode cX2_tells 22 = .ok (.if_icmp .eq 17, 3) := by decide +kernel
theorem dX2_tells_25 : decode cX2_tells 25 = .ok (.aload_n 0, 1) := by decide +kernel
theorem dX2_tells_26 : decode cX2_tells 26 = .ok (.getfield 18, 3) := by decide +kernel
theorem dX2_tells_29 : decode cX2_tells 29 = .ok (.iload_n 2, 1) := by decide +kernel
theorem dX2_tells_30 : decode cX2_tells 30 = .ok (.iaload, 1) := by decide +kernel
theorem dX2_tells_31 : decode cX2_tells 31 = .ok (.aload_n 1, 1) := by decide +kernel
theorem dX2_tells_32 : decode cX2_tells 32 = .ok (.iload_n 2, 1) := by decide +kernel
theorem dX2_tells_33 : decode cX2_tells 33 = .ok (.iaload, 1) := by decide +kernel
theorem dX2_tells_34 : decode cX2_tells 34 = .ok (.if_icmp .eq 5, 3) := by decide +kernel
theorem dX2_tells_37 : decode cX2_tells 37 = .ok (.iconst 0, 1) := by decide +kernel
theorem dX2_tells_38 : decode cX2_tells 38 = .ok (.ireturn, 1) := by decide +kernel
theorem dX2_tells_39 : decode cX2_tells 39 = .ok (.iinc 2 1, 3) := by decide +kernel
theorem dX2_tells_42 : decode cX2_tells 42 = .ok (.goto (-40), 3) := by decide +kernel
theorem dX2_tells_45 : decode cX2_tells 45 = .ok (.iconst 1, 1) := by decide +kernel
theorem dX2_tells_46 : decode cX2_tells 46 = .ok (.ireturn, 1) := by decide +kernel
theorem dX0_init_0 : decode cX0_init 0 = .ok (.aload_n 0, 1) := by decide +kernel
theorem dX0_init_1 : decode cX0_init 1 = .ok (.invokespecial 3, 3) := by decide +kernel
theorem dX0_init_4 : decode cX0_init 4 = .ok (.aload_n 0, 1) := by decide +kernel
theorem dX0_init_5 : decode cX0_init 5 = .ok (.bipush 25, 2) := by decide +kernel
theorem dX0_init_7 : decode cX0_init 7 = .ok (.newarray .int, 2) := by decide +kernel
theorem dX0_init_9 : decode cX0_init 9 = .ok (.putfield 9, 3) := by decide +kernel
theorem dX0_init_12 : decode cX0_init 12 = .ok (.aload_n 0, 1) := by decide +kernel
theorem dX0_init_13 : decode cX0_init 13 = .ok (.bipush 10, 2) := by decide +kernel
theorem dX0_init_15 : decode cX0_init 15 = .ok (.newarray .int, 2) := by decide +kernel
theorem dX0_init_17 : decode cX0_init 17 = .ok (.putfield 15, 3) := by decide +kernel
theorem dX0_init_20 : decode cX0_init 20 = .ok (.aload_n 0, 1) := by decide +kernel
theorem dX0_init_21 : decode cX0_init 21 = .ok (.bipush 6, 2) := by decide +kernel
theorem dX0_init_23 : decode cX0_init 23 = .ok (.anewarray 18, 3) := by decide +kernel
theorem dX0_init_26 : decode cX0_init 26 = .ok (.putfield 20, 3) := by decide +kernel
theorem dX0_init_29 : decode cX0_init 29 = .ok (.aload_n 0, 1) := by decide +kernel
theorem dX0_init_30 : decode cX0_init 30 = .ok (.iconst 0, 1) := by decide +kernel
theorem dX0_init_31 : decode cX0_init 31 = .ok (.putfield 24, 3) := by decide +kernel
theorem dX0_init_34 : decode cX0_init 34 = .ok (.aload_n 0, 1) := by decide +kernel
theorem dX0_init_35 : decode cX0_init 35 = .ok (.iconst 0, 1) := by decide +kernel
theorem dX0_init_36 : decode cX0_init 36 = .ok (.putfield 28, 3) := by decide +kernel
theorem dX0_init_39 : decode cX0_init 39 = .ok (.aload_n 0, 1) := by decide +kernel
theorem dX0_init_40 : decode cX0_init 40 = .ok (.iconst 0, 1) := by decide +kernel
theorem dX0_init_41 : decode cX0_init 41 = .ok (.putfield 31, 3) := by decide +kernel
theorem dX0_init_44 : decode cX0_init 44 = .ok (.aload_n 0, 1) := by decide +kernel
theorem dX0_init_45 : decode cX0_init 45 = .ok (.iconst 1, 1) := by decide +kernel
theorem dX0_init_46 : decode cX0_init 46 = .ok (.putfield 34, 3) := by decide +kernel
theorem dX0_init_49 : decode cX0_init 49 = .ok (.aload_n 0, 1) := by decide +kernel
theorem dX0_init_50 : decode cX0_init 50 = .ok (.getfield 9, 3) := by decide +kernel
theorem dX0_init_53 : decode cX0_init 53 = .ok (.bipush 50, 2) := by decide +kernel
theorem dX0_init_55 : decode cX0_init 55 = .ok (.invokestatic 37, 3) := by decide +kernel
theorem dX0_init_58 : decode cX0_init 58 = .ok (.aload_n 0, 1) := by decide +kernel
theorem dX0_init_59 : decode cX0_init 59 = .ok (.getfield 15, 3) := by decide +kernel
theorem dX0_init_62 : decode cX0_init 62 = .ok (.iconst (-1), 1) := by decide +kernel
theorem dX0_init_63 : decode cX0_init 63 = .ok (.invokestatic 37, 3) := by decide +kernel
theorem dX0_init_66 : decode cX0_init 66 = .ok (.iconst 0, 1) := by decide +kernel
theorem dX0_init_67 : decode cX0_init 67 = .ok (.istore_n 1, 1) := by decide +kernel
theorem dX0_init_68 : decode cX0_init 68 = .ok (.iload_n 1, 1) := by decide +kernel
theorem dX0_init_69 : decode cX0_init 69 = .ok (.bipush 6, 2) := by decide +kernel
theorem dX0_init_71 : decode cX0_init 71 = .ok (.if_icmp .ge 22, 3) := by decide +kernel
theorem dX0_init_74 : decode cX0_init 74 = .ok (.aload_n 0, 1) := by decide +kernel
theorem dX0_init_75 : decode cX0_init 75 = .ok (.getfield 20, 3) := by decide +kernel
theorem dX0_init_78 : decode cX0_init 78 = .ok (.iload_n 1, 1) := by decide +kernel
theorem dX0_init_79 : decode cX0_init 79 = .ok (.new 18, 3) := by decide +kernel
theorem dX0_init_82 : decode cX0_init 82 = .ok (.dup, 1) := by decide +kernel
theorem dX0_init_83 : decode cX0_init 83 = .ok (.invokespecial 43, 3) := by decide +kernel
theorem dX0_init_86 : decode cX0_init 86 = .ok (.aastore, 1) := by decide +kernel
theorem dX0_init_87 : decode cX0_init 87 = .ok (.iinc 1 1, 3) := by decide +kernel
theorem dX0_init_90 : decode cX0_init 90 = .ok (.goto (-22), 3) := by decide +kernel
theorem dX0_init_93 : decode cX0_init 93 = .ok (.return_, 1) := by decide +kernel
theorem dX0_becomeLike_0 : decode cX0_becomeLike 0 = .ok (.aload_n 1, 1) := by decide +kernel
theorem dX0_becomeLike_1 : decode cX0_becomeLike 1 = .ok (.getfield 9, 3) := by decide +kernel
theorem dX0_becomeLike_4 : decode cX0_becomeLike 4 = .ok (.iconst 0, 1) := by decide +kernel
theorem dX0_becomeLike_5 : decode cX0_becomeLike 5 = .ok (.aload_n 0, 1) := by decide +kernel
theorem dX0_becomeLike_6 : decode cX0_becomeLike 6 = .ok (.getfield 9, 3) := by decide +kernel
theorem dX0_becomeLike_9 : decode cX0_becomeLike 9 = .ok (.iconst 0, 1) := by decide +kernel
theorem dX0_becomeLike_10 : decode cX0_becomeLike 10 = .ok (.bipush 25, 2) := by decide +kernel
theorem dX0_becomeLike_12 : decode cX0_becomeLike 12 = .ok (.invokestatic 44, 3) := by decide +kernel
theorem dX0_becomeLike_15 : decode cX0_becomeLike 15 = .ok (.aload_n 1, 1) := by decide +kernel
theorem dX0_becomeLike_16 : decode cX0_becomeLike 16 = .ok (.getfield 15, 3) := by decide +kernel
theorem dX0_becomeLike_19 : decode cX0_becomeLike 19 = .ok (.iconst 0, 1) := by decide +kernel
theorem dX0_becomeLike_20 : decode cX0_becomeLike 20 = .ok (.aload_n 0, 1) := by decide +kernel
theorem dX0_becomeLike_21 : decode cX0_becomeLike 21 = .ok (.getfield 15, 3) := by decide +kernel
theorem dX0_becomeLike_24 : decode cX0_becomeLike 24 = .ok (.iconst 0, 1) := by decide +kernel
theorem dX0_becomeLike_25 : decode cX0_becomeLike 25 = .ok (.bipush 10, 2) := by decide +kernel
theorem dX0_becomeLike_27 : decode cX0_becomeLike 27 = .ok (.invokestatic 44, 3) := by decide +kernel
theorem dX0_becomeLike_30 : decode cX0_becomeLike 30 = .ok (.aload_n 0, 1) := by decide +kernel
theorem dX0_becomeLike_31 : decode cX0_becomeLike 31 = .ok (.aload_n 1, 1) := by decide +kernel
theorem dX0_becomeLike_32 : decode cX0_becomeLike 32 = .ok (.getfield 24, 3) := by decide +kernel
theorem dX0_becomeLike_35 : decode cX0_becomeLike 35 = .ok (.putfield 24, 3) := by decide +kernel
theorem dX0_becomeLike_38 : decode cX0_becomeLike 38 = .ok (.iconst 0, 1) := by decide +kernel
theorem dX0_becomeLike_39 : decode cX0_becomeLike 39 = .ok (.istore_n 2, 1) := by decide +kernel
theorem dX0_becomeLike_40 : decode cX0_becomeLike 40 = .ok (.iload_n 2, 1) := by decide +kernel
theorem dX0_becomeLike_41 : decode cX0_becomeLike 41 = .ok (.aload_n 0, 1) := by decide +kernel
theorem dX0_becomeLike_42 : decode cX0_becomeLike 42 = .ok (.getfield 24, 3) := by decide +kernel
theorem dX0_becomeLike_45 : decode cX0_becomeLike 45 = .ok (.if_icmp .ge 24, 3) := by decide +kernel
theorem dX0_becomeLike_48 : decode cX0_becomeLike 48 = .ok (.aload_n 0, 1) := by decide +kernel
theorem dX0_becomeLike_49 : decode cX0_becomeLike 49 = .ok (.getfield 20, 3) := by decide +kernel
theorem dX0_becomeLike_52 : decode cX0_becomeLike 52 = .ok (.iload_n 2, 1) := by decide +kernel
theorem dX0_becomeLike_53 : decode cX0_becomeLike 53 = .ok (.aaload, 1) := by decide +kernel
theorem dX0_becomeLike_54 : decode cX0_becomeLike 54 = .ok (.aload_n 1, 1) := by decide +kernel
theorem dX0_becomeLike_55 : decode cX0_becomeLike 55 = .ok (.getfield 20, 3) := by decide +kernel
theorem dX0_becomeLike_58 : decode cX0_becomeLike 58 = .ok (.iload_n 2, 1) := by decide +kernel
theorem dX0_becomeLike_59 : decode cX0_becomeLike 59 = .ok (.aaload, 1) := by decide +kernel
theorem dX0_becomeLike_60 : decode cX0_becomeLike 60 = .ok (.invokevirtual 50, 3) := by decide +kernel
theorem dX0_becomeLike_63 : decode cX0_becomeLike 63 = .ok (.iinc 2 1, 3) := by decide +kernel
theorem dX0_becomeLike_66 : decode cX0_becomeLike 66 = .ok (.goto (-26), 3) := by decide +kernel
theorem dX0_becomeLike_69 : decode cX0_becomeLike 69 = .ok (.aload_n 0, 1) := by decide +kernel
theorem dX0_becomeLike_70 : decode cX0_becomeLike 70 = .ok (.aload_n 1, 1) := by decide +kernel
theorem dX0_becomeLike_71 : decode cX0_becomeLike 71 = .ok (.getfield 28, 3) := by decide +kernel
theorem dX0_becomeLike_74 : decode cX0_becomeLike 74 = .ok (.putfield 28, 3) := by decide +kernel
theorem dX0_becomeLike_77 : decode cX0_becomeLike 77 = .ok (.aload_n 0, 1) := by decide +kernel
theorem dX0_becomeLike_78 : decode cX0_becomeLike 78 = .ok (.aload_n 1, 1) := by decide +kernel
theorem dX0_becomeLike_79 : decode cX0_becomeLike 79 = .ok (.getfield 31, 3) := by decide +kernel
theorem dX0_becomeLike_82 : decode cX0_becomeLike 82 = .ok (.putfield 31, 3) := by decide +kernel
theorem dX0_becomeLike_85 : decode cX0_becomeLike 85 = .ok (.aload_n 0, 1) := by decide +kernel
theorem dX0_becomeLike_86 : decode cX0_becomeLike 86 = .ok (.aload_n 1, 1) := by decide +kernel
theorem dX0_becomeLike_87 : decode cX0_becomeLike 87 = .ok (.getfield 34, 3) := by decide +kernel
theorem dX0_becomeLike_90 : decode cX0_becomeLike 90 = .ok (.putfield 34, 3) := by decide +kernel
theorem dX0_becomeLike_93 : decode cX0_becomeLike 93 = .ok (.return_, 1) := by decide +kernel
theorem dX0_addTent_0 : decode cX0_addTent 0 = .ok (.aload_n 0, 1) := by decide +kernel
theorem dX0_addTent_1 : decode cX0_addTent 1 = .ok (.getfield 24, 3) := by decide +kernel
theorem dX0_addTent_4 : decode cX0_addTent 4 = .ok (.bipush 6, 2) := by decide +kernel
theorem dX0_addTent_6 : decode cX0_addTent 6 = .ok (.if_icmp .ge 26, 3) := by decide +kernel
theorem dX0_addTent_9 : decode cX0_addTent 9 = .ok (.aload_n 0, 1) := by decide +kernel
theorem dX0_addTent_10 : decode cX0_addTent 10 = .ok (.getfield 20, 3) := by decide +kernel
theorem dX0_addTent_13 : decode cX0_addTent 13 = .ok (.aload_n 0, 1) := by decide +kernel
theorem dX0_addTent_14 : decode cX0_addTent 14 = .ok (.getfield 24, 3) := by decide +kernel
theorem dX0_addTent_17 : decode cX0_addTent 17 = .ok (.aaload, 1) := by decide +kernel
theorem dX0_addTent_18 : decode cX0_addTent 18 = .ok (.iload_n 1, 1) := by decide +kernel
theorem dX0_addTent_19 : decode cX0_addTent 19 = .ok (.invokevirtual 54, 3) := by decide +kernel
theorem dX0_addTent_22 : decode cX0_addTent 22 = .ok (.aload_n 0, 1) := by decide +kernel
theorem dX0_addTent_23 : decode cX0_addTent 23 = .ok (.dup, 1) := by decide +kernel
theorem dX0_addTent_24 : decode cX0_addTent 24 = .ok (.getfield 24, 3) := by decide +kernel
theorem dX0_addTent_27 : decode cX0_addTent 27 = .ok (.iconst 1, 1) := by decide +kernel
theorem dX0_addTent_28 : decode cX0_addTent 28 = .ok (.iadd, 1) := by decide +kernel
theorem dX0_addTent_29 : decode cX0_addTent 29 = .ok (.putfield 24, 3) := by decide +kernel
theorem dX0_addTent_32 : decode cX0_addTent 32 = .ok (.return_, 1) := by decide +kernel
theorem dX0_pitchAlone_0 : decode cX0_pitchAlone 0 = .ok (.iconst 0, 1) := by decide +kernel
theorem dX0_pitchAlone_1 : decode cX0_pitchAlone 1 = .ok (.istore_n 3, 1) := by decide +kernel
theorem dX0_pitchAlone_2 : decode cX0_pitchAlone 2 = .ok (.iload_n 3, 1) := by decide +kernel
theorem dX0_pitchAlone_3 : decode cX0_pitchAlone 3 = .ok (.aload_n 0, 1) := by decide +kernel
theorem dX0_pitchAlone_4 : decode cX0_pitchAlone 4 = .ok (.getfield 24, 3) := by decide +kernel
theorem dX0_pitchAlone_7 : decode cX0_pitchAlone 7 = .ok (.if_icmp .ge 28, 3) := by decide +kernel
theorem dX0_pitchAlone_10 : decode cX0_pitchAlone 10 = .ok (.aload_n 0, 1) := by decide +kernel
theorem dX0_pitchAlone_11 : decode cX0_pitchAlone 11 = .ok (.getfield 20, 3) := by decide +kernel
theorem dX0_pitchAlone_14 : decode cX0_pitchAlone 14 = .ok (.iload_n 3, 1) := by decide +kernel
theorem dX0_pitchAlone_15 : decode cX0_pitchAlone 15 = .ok (.aaload, 1) := by decide +kernel
theorem dX0_pitchAlone_16 : decode cX0_pitchAlone 16 = .ok (.iload_n 3, 1) := by decide +kernel
theorem dX0_pitchAlone_17 : decode cX0_pitchAlone 17 = .ok (.iload_n 1, 1) := by decide +kernel
theorem dX0_pitchAlone_18 : decode cX0_pitchAlone 18 = .ok (.if_icmp .ne 7, 3) := by decide +kernel
theorem dX0_pitchAlone_21 : decode cX0_pitchAlone 21 = .ok (.iload_n 2, 1) := by decide +kernel
theorem dX0_pitchAlone_22 : decode cX0_pitchAlone 22 = .ok (.goto 4, 3) := by decide +kernel
theorem dX0_pitchAlone_25 : decode cX0_pitchAlone 25 = .ok (.iconst (-1), 1) := by decide +kernel
theorem dX0_pitchAlone_26 : decode cX0_pitchAlone 26 = .ok (.putfield 58, 3) := by decide +kernel
theorem dX0_pitchAlone_29 : decode cX0_pitchAlone 29 = .ok (.iinc 3 1, 3) := by decide +kernel
theorem dX0_pitchAlone_32 : decode cX0_pitchAlone 32 = .ok (.goto (-30), 3) := by decide +kernel
theorem dX0_pitchAlone_35 : decode cX0_pitchAlone 35 = .ok (.return_, 1) := by decide +kernel
theorem dX0_draw_0 : decode cX0_draw 0 = .ok (.aload_n 0, 1) := by decide +kernel
theorem dX0_draw_1 : decode cX0_draw 1 = .ok (.aload_n 0, 1) := by decide +kernel
theorem dX0_draw_2 : decode cX0_draw 2 = .ok (.getfield 34, 3) := by decide +kernel
theorem dX0_draw_5 : decode cX0_draw 5 = .ok (.ldc 61, 2) := by decide +kernel
theorem dX0_draw_7 : decode cX0_draw 7 = .ok (.imul, 1) := by decide +kernel
theorem dX0_draw_8 : decode cX0_draw 8 = .ok (.sipush 12345, 3) := by decide +kernel
theorem dX0_draw_11 : decode cX0_draw 11 = .ok (.iadd, 1) := by decide +kernel
theorem dX0_draw_12 : decode cX0_draw 12 = .ok (.putfield 34, 3) := by decide +kernel
theorem dX0_draw_15 : decode cX0_draw 15 = .ok (.aload_n 0, 1) := by decide +kernel
theorem dX0_draw_16 : decode cX0_draw 16 = .ok (.getfield 34, 3) := by decide +kernel
theorem dX0_draw_19 : decode cX0_draw 19 = .ok (.bipush 8, 2) := by decide +kernel
theorem dX0_draw_21 : decode cX0_draw 21 = .ok (.iushr, 1) := by decide +kernel
theorem dX0_draw_22 : decode cX0_draw 22 = .ok (.ireturn, 1) := by decide +kernel
theorem dX0_passDays_0 : decode cX0_passDays 0 = .ok (.iconst 0, 1) := by decide +kernel
theorem dX0_passDays_1 : decode cX0_passDays 1 = .ok (.istore_n 2, 1) := by decide +kernel
theorem dX0_passDays_2 : decode cX0_passDays 2 = .ok (.iload_n 2, 1) := by decide +kernel
theorem dX0_passDays_3 : decode cX0_passDays 3 = .ok (.iload_n 1, 1) := by decide +kernel
theorem dX0_passDays_4 : decode cX0_passDays 4 = .ok (.if_icmp .ge 13, 3) := by decide +kernel
theorem dX0_passDays_7 : decode cX0_passDays 7 = .ok (.aload_n 0, 1) := by decide +kernel
theorem dX0_passDays_8 : decode cX0_passDays 8 = .ok (.invokevirtual 62, 3) := by decide +kernel
theorem dX0_passDays_11 : decode cX0_passDays 11 = .ok (.iinc 2 1, 3) := by decide +kernel
theorem dX0_passDays_14 : decode cX0_passDays 14 = .ok (.goto (-12), 3) := by decide +kernel
theorem dX0_passDays_17 : decode cX0_passDays 17 = .ok (.return_, 1) := by decide +kernel
theorem dX0_passDay_0 : decode cX0_passDay 0 = .ok (.iconst 0, 1) := by decide +kernel
theorem dX0_passDay_1 : decode cX0_passDay 1 = .ok (.istore_n 1, 1) := by decide +kernel
theorem dX0_passDay_2 : decode cX0_passDay 2 = .ok (.iload_n 1, 1) := by decide +kernel
theorem dX0_passDay_3 : decode cX0_passDay 3 = .ok (.aload_n 0, 1) := by decide +kernel
theorem dX0_passDay_4 : decode cX0_passDay 4 = .ok (.getfield 24, 3) := by decide +kernel
theorem dX0_passDay_7 : decode cX0_passDay 7 = .ok (.if_icmp .ge 40, 3) := by decide +kernel
theorem dX0_passDay_10 : decode cX0_passDay 10 = .ok (.aload_n 0, 1) := by decide +kernel
theorem dX0_passDay_11 : decode cX0_passDay 11 = .ok (.getfield 20, 3) := by decide +kernel
theorem dX0_passDay_14 : decode cX0_passDay 14 = .ok (.iload_n 1, 1) := by decide +kernel
theorem dX0_passDay_15 : decode cX0_passDay 15 = .ok (.aaload, 1) := by decide +kernel
theorem dX0_passDay_16 : decode cX0_passDay 16 = .ok (.invokevirtual 65, 3) := by decide +kernel
theorem dX0_passDay_19 : decode cX0_passDay 19 = .ok (.ifCond .eq 22, 3) := by decide +kernel
theorem dX0_passDay_22 : decode cX0_passDay 22 = .ok (.aload_n 0, 1) := by decide +kernel
theorem dX0_passDay_23 : decode cX0_passDay 23 = .ok (.aload_n 0, 1) := by decide +kernel
theorem dX0_passDay_24 : decode cX0_passDay 24 = .ok (.getfield 20, 3) := by decide +kernel
theorem dX0_passDay_27 : decode cX0_passDay 27 = .ok (.iload_n 1, 1) := by decide +kernel
theorem dX0_passDay_28 : decode cX0_passDay 28 = .ok (.aaload, 1) := by decide +kernel
theorem dX0_passDay_29 : decode cX0_passDay 29 = .ok (.invokevirtual 69, 3) := by decide +kernel
theorem dX0_passDay_32 : decode cX0_passDay 32 = .ok (.aload_n 0, 1) := by decide +kernel
theorem dX0_passDay_33 : decode cX0_passDay 33 = .ok (.getfield 20, 3) := by decide +kernel
theorem dX0_passDay_36 : decode cX0_passDay 36 = .ok (.iload_n 1, 1) := by decide +kernel
theorem dX0_passDay_37 : decode cX0_passDay 37 = .ok (.aaload, 1) := by decide +kernel
theorem dX0_passDay_38 : decode cX0_passDay 38 = .ok (.invokevirtual 72, 3) := by decide +kernel
theorem dX0_passDay_41 : decode cX0_passDay 41 = .ok (.iinc 1 1, 3) := by decide +kernel
theorem dX0_passDay_44 : decode cX0_passDay 44 = .ok (.goto (-42), 3) := by decide +kernel
theorem dX0_passDay_47 : decode cX0_passDay 47 = .ok (.aload_n 0, 1) := by decide +kernel
theorem dX0_passDay_48 : decode cX0_passDay 48 = .ok (.getfield 31, 3) := by decide +kernel
theorem dX0_passDay_51 : decode cX0_passDay 51 = .ok (.ldc 75, 2) := by decide +kernel
theorem dX0_passDay_53 : decode cX0_passDay 53 = .ok (.if_icmp .ge 13, 3) := by decide +kernel
theorem dX0_passDay_56 : decode cX0_passDay 56 = .ok (.aload_n 0, 1) := by decide +kernel
theorem dX0_passDay_57 : decode cX0_passDay 57 = .ok (.dup, 1) := by decide +kernel
theorem dX0_passDay_58 : decode cX0_passDay 58 = .ok (.getfield 31, 3) := by decide +kernel
theorem dX0_passDay_61 : decode cX0_passDay 61 = .ok (.iconst 1, 1) := by decide +kernel
theorem dX0_passDay_62 : decode cX0_passDay 62 = .ok (.iadd, 1) := by decide +kernel
theorem dX0_passDay_63 : decode cX0_passDay 63 = .ok (.putfield 31, 3) := by decide +kernel
theorem dX0_passDay_66 : decode cX0_passDay 66 = .ok (.return_, 1) := by decide +kernel
theorem dX0_pressAndTake_0 : decode cX0_pressAndTake 0 = .ok (.iconst 0, 1) := by decide +kernel
theorem dX0_pressAndTake_1 : decode cX0_pressAndTake 1 = .ok (.istore_n 2, 1) := by decide +kernel
theorem dX0_pressAndTake_2 : decode cX0_pressAndTake 2 = .ok (.iload_n 2, 1) := by decide +kernel
theorem dX0_pressAndTake_3 : decode cX0_pressAndTake 3 = .ok (.iconst 4, 1) := by decide +kernel
theorem dX0_pressAndTake_4 : decode cX0_pressAndTake 4 = .ok (.if_icmp .ge 79, 3) := by decide +kernel
theorem dX0_pressAndTake_7 : decode cX0_pressAndTake 7 = .ok (.aload_n 1, 1) := by decide +kernel
theorem dX0_pressAndTake_8 : decode cX0_pressAndTake 8 = .ok (.getfield 58, 3) := by decide +kernel
theorem dX0_pressAndTake_11 : decode cX0_pressAndTake 11 = .ok (.iload_n 2, 1) := by decide +kernel
theorem dX0_pressAndTake_12 : decode cX0_pressAndTake 12 = .ok (.invokestatic 76, 3) := by decide +kernel
theorem dX0_pressAndTake_15 : decode cX0_pressAndTake 15 = .ok (.istore_n 3, 1) := by decide +kernel
theorem dX0_pressAndTake_16 : decode cX0_pressAndTake 16 = .ok (.aload_n 1, 1) := by decide +kernel
theorem dX0_pressAndTake_17 : decode cX0_pressAndTake 17 = .ok (.getfield 80, 3) := by decide +kernel
theorem dX0_pressAndTake_20 : decode cX0_pressAndTake 20 = .ok (.iload_n 2, 1) := by decide +kernel
theorem dX0_pressAndTake_21 : decode cX0_pressAndTake 21 = .ok (.iaload, 1) := by decide +kernel
theorem dX0_pressAndTake_22 : decode cX0_pressAndTake 22 = .ok (.istore 4, 2) := by decide +kernel
theorem dX0_pressAndTake_24 : decode cX0_pressAndTake 24 = .ok (.aload_n 0, 1) := by decide +kernel
theorem dX0_pressAndTake_25 : decode cX0_pressAndTake 25 = .ok (.getfield 9, 3) := by decide +kernel
theorem dX0_pressAndTake_28 : decode cX0_pressAndTake 28 = .ok (.iload_n 3, 1) := by decide +kernel
theorem dX0_pressAndTake_29 : decode cX0_pressAndTake 29 = .ok (.iaload, 1) := by decide +kernel
theorem dX0_pressAndTake_30 : decode cX0_pressAndTake 30 = .ok (.istore 5, 2) := by decide +kernel
theorem dX0_pressAndTake_32 : decode cX0_pressAndTake 32 = .ok (.iload 4, 2) := by decide +kernel
theorem dX0_pressAndTake_34 : decode cX0_pressAndTake 34 = .ok (.iconst (-1), 1) := by decide +kernel
theorem dX0_pressAndTake_35 : decode cX0_pressAndTake 35 = .ok (.if_icmp .ne 14, 3) := by decide +kernel
theorem dX0_pressAndTake_38 : decode cX0_pressAndTake 38 = .ok (.aload_n 1, 1) := by decide +kernel
theorem dX0_pressAndTake_39 : decode cX0_pressAndTake 39 = .ok (.getfield 80, 3) := by decide +kernel
theorem dX0_pressAndTake_42 : decode cX0_pressAndTake 42 = .ok (.iload_n 2, 1) := by decide +kernel
theorem dX0_pressAndTake_43 : decode cX0_pressAndTake 43 = .ok (.iload 5, 2) := by decide +kernel
theorem dX0_pressAndTake_45 : decode cX0_pressAndTake 45 = .ok (.iastore, 1) := by decide +kernel
theorem dX0_pressAndTake_46 : decode cX0_pressAndTake 46 = .ok (.goto 31, 3) := by decide +kernel
theorem dX0_pressAndTake_49 : decode cX0_pressAndTake 49 = .ok (.aload_n 0, 1) := by decide +kernel
theorem dX0_pressAndTake_50 : decode cX0_pressAndTake 50 = .ok (.getfield 9, 3) := by decide +kernel
theorem dX0_pressAndTake_53 : decode cX0_pressAndTake 53 = .ok (.iload_n 3, 1) := by decide +kernel
theorem dX0_pressAndTake_54 : decode cX0_pressAndTake 54 = .ok (.aload_n 1, 1) := by decide +kernel
theorem dX0_pressAndTake_55 : decode cX0_pressAndTake 55 = .ok (.iload 4, 2) := by decide +kernel
theorem dX0_pressAndTake_57 : decode cX0_pressAndTake 57 = .ok (.iload 5, 2) := by decide +kernel
theorem dX0_pressAndTake_59 : decode cX0_pressAndTake 59 = .ok (.invokevirtual 83, 3) := by decide +kernel
theorem dX0_pressAndTake_62 : decode cX0_pressAndTake 62 = .ok (.iastore, 1) := by decide +kernel
theorem dX0_pressAndTake_63 : decode cX0_pressAndTake 63 = .ok (.aload_n 1, 1) := by decide +kernel
theorem dX0_pressAndTake_64 : decode cX0_pressAndTake 64 = .ok (.getfield 80, 3) := by decide +kernel
theorem dX0_pressAndTake_67 : decode cX0_pressAndTake 67 = .ok (.iload_n 2, 1) := by decide +kernel
theorem dX0_pressAndTake_68 : decode cX0_pressAndTake 68 = .ok (.aload_n 1, 1) := by decide +kernel
theorem dX0_pressAndTake_69 : decode cX0_pressAndTake 69 = .ok (.iload 4, 2) := by decide +kernel
theorem dX0_pressAndTake_71 : decode cX0_pressAndTake 71 = .ok (.iload 5, 2) := by decide +kernel
theorem dX0_pressAndTake_73 : decode cX0_pressAndTake 73 = .ok (.invokevirtual 86, 3) := by decide +kernel
theorem dX0_pressAndTake_76 : decode cX0_pressAndTake 76 = .ok (.iastore, 1) := by decide +kernel
theorem dX0_pressAndTake_77 : decode cX0_pressAndTake 77 = .ok (.iinc 2 1, 3) := by decide +kernel
theorem dX0_pressAndTake_80 : decode cX0_pressAndTake 80 = .ok (.goto (-78), 3) := by decide +kernel
theorem dX0_pressAndTake_83 : decode cX0_pressAndTake 83 = .ok (.return_, 1) := by decide +kernel
theorem dX0_springAt_0 : decode cX0_springAt 0 = .ok (.aload_n 0, 1) := by decide +kernel
theorem dX0_springAt_1 : decode cX0_springAt 1 = .ok (.getfield 28, 3) := by decide +kernel
theorem dX0_springAt_4 : decode cX0_springAt 4 = .ok (.iload_n 1, 1) := by decide +kernel
theorem dX0_springAt_5 : decode cX0_springAt 5 = .ok (.iushr, 1) := by decide +kernel
theorem dX0_springAt_6 : decode cX0_springAt 6 = .ok (.iconst 1, 1) := by decide +kernel
theorem dX0_springAt_7 : decode cX0_springAt 7 = .ok (.iand, 1) := by decide +kernel
theorem dX0_springAt_8 : decode cX0_springAt 8 = .ok (.ireturn, 1) := by decide +kernel
theorem dX0_setSpring_0 : decode cX0_setSpring 0 = .ok (.iload_n 2, 1) := by decide +kernel
theorem dX0_setSpring_1 : decode cX0_setSpring 1 = .ok (.iconst 1, 1) := by decide +kernel
theorem dX0_setSpring_2 : decode cX0_setSpring 2 = .ok (.if_icmp .ne 18, 3) := by decide +kernel
theorem dX0_setSpring_5 : decode cX0_setSpring 5 = .ok (.aload_n 0, 1) := by decide +kernel
theorem dX0_setSpring_6 : decode cX0_setSpring 6 = .ok (.dup, 1) := by decide +kernel
theorem dX0_setSpring_7 : decode cX0_setSpring 7 = .ok (.getfield 28, 3) := by decide +kernel
theorem dX0_setSpring_10 : decode cX0_setSpring 10 = .ok (.iconst 1, 1) := by decide +kernel
theorem dX0_setSpring_11 : decode cX0_setSpring 11 = .ok (.iload_n 1, 1) := by decide +kernel
theorem dX0_setSpring_12 : decode cX0_setSpring 12 = .ok (.ishl, 1) := by decide +kernel
theorem dX0_setSpring_13 : decode cX0_setSpring 13 = .ok (.ior, 1) := by decide +kernel
theorem dX0_setSpring_14 : decode cX0_setSpring 14 = .ok (.putfield 28, 3) := by decide +kernel
theorem dX0_setSpring_17 : decode cX0_setSpring 17 = .ok (.goto 17, 3) := by decide +kernel
theorem dX0_setSpring_20 : decode cX0_setSpring 20 = .ok (.aload_n 0, 1) := by decide +kernel
theorem dX0_setSpring_21 : decode cX0_setSpring 21 = .ok (.dup, 1) := by decide +kernel
theorem dX0_setSpring_22 : decode cX0_setSpring 22 = .ok (.getfield 28, 3) := by decide +kernel
theorem dX0_setSpring_25 : decode cX0_setSpring 25 = .ok (.iconst 1, 1) := by decide +kernel
theorem dX0_setSpring_26 : decode cX0_setSpring 26 = .ok (.iload_n 1, 1) := by decide +kernel
theorem dX0_setSpring_27 : decode cX0_setSpring 27 = .ok (.ishl, 1) := by decide +kernel
theorem dX0_setSpring_28 : decode cX0_setSpring 28 = .ok (.iconst (-1), 1) := by decide +kernel
theorem dX0_setSpring_29 : decode cX0_setSpring 29 = .ok (.ixor, 1) := by decide +kernel
theorem dX0_setSpring_30 : decode cX0_setSpring 30 = .ok (.iand, 1) := by decide +kernel
theorem dX0_setSpring_31 : decode cX0_setSpring 31 = .ok (.putfield 28, 3) := by decide +kernel
theorem dX0_setSpring_34 : decode cX0_setSpring 34 = .ok (.return_, 1) := by decide +kernel
theorem dX0_tentsOver_0 : decode cX0_tentsOver 0 = .ok (.iconst 0, 1) := by decide +kernel
theorem dX0_tentsOver_1 : decode cX0_tentsOver 1 = .ok (.istore_n 2, 1) := by decide +kernel
theorem dX0_tentsOver_2 : decode cX0_tentsOver 2 = .ok (.iconst 0, 1) := by decide +kernel
theorem dX0_tentsOver_3 : decode cX0_tentsOver 3 = .ok (.istore_n 3, 1) := by decide +kernel
theorem dX0_tentsOver_4 : decode cX0_tentsOver 4 = .ok (.iload_n 3, 1) := by decide +kernel
theorem dX0_tentsOver_5 : decode cX0_tentsOver 5 = .ok (.aload_n 0, 1) := by decide +kernel
theorem dX0_tentsOver_6 : decode cX0_tentsOver 6 = .ok (.getfield 24, 3) := by decide +kernel
theorem dX0_tentsOver_9 : decode cX0_tentsOver 9 = .ok (.if_icmp .ge 47, 3) := by decide +kernel
theorem dX0_tentsOver_12 : decode cX0_tentsOver 12 = .ok (.aload_n 0, 1) := by decide +kernel
theorem dX0_tentsOver_13 : decode cX0_tentsOver 13 = .ok (.getfield 20, 3) := by decide +kernel
theorem dX0_tentsOver_16 : decode cX0_tentsOver 16 = .ok (.iload_n 3, 1) := by decide +kernel
theorem dX0_tentsOver_17 : decode cX0_tentsOver 17 = .ok (.aaload, 1) := by decide +kernel
theorem dX0_tentsOver_18 : decode cX0_tentsOver 18 = .ok (.invokevirtual 65, 3) := by decide +kernel
theorem dX0_tentsOver_21 : decode cX0_tentsOver 21 = .ok (.ifCond .eq 29, 3) := by decide +kernel
theorem dX0_tentsOver_24 : decode cX0_tentsOver 24 = .ok (.aload_n 0, 1) := by decide +kernel
theorem dX0_tentsOver_25 : decode cX0_tentsOver 25 = .ok (.getfield 20, 3) := by decide +kernel
theorem dX0_tentsOver_28 : decode cX0_tentsOver 28 = .ok (.iload_n 3, 1) := by decide +kernel
theorem dX0_tentsOver_29 : decode cX0_tentsOver 29 = .ok (.aaload, 1) := by decide +kernel
theorem dX0_tentsOver_30 : decode cX0_tentsOver 30 = .ok (.getfield 58, 3) := by decide +kernel
theorem dX0_tentsOver_33 : decode cX0_tentsOver 33 = .ok (.invokestatic 89, 3) := by decide +kernel
theorem dX0_tentsOver_36 : decode cX0_tentsOver 36 = .ok (.iload_n 1, 1) := by decide +kernel
theorem dX0_tentsOver_37 : decode cX0_tentsOver 37 = .ok (.iushr, 1) := by decide +kernel
theorem dX0_tentsOver_38 : decode cX0_tentsOver 38 = .ok (.iconst 1, 1) := by decide +kernel
theorem dX0_tentsOver_39 : decode cX0_tentsOver 39 = .ok (.iand, 1) := by decide +kernel
theorem dX0_tentsOver_40 : decode cX0_tentsOver 40 = .ok (.iconst 1, 1) := by decide +kernel
theorem dX0_tentsOver_41 : decode cX0_tentsOver 41 = .ok (.if_icmp .ne 9, 3) := by decide +kernel
theorem dX0_tentsOver_44 : decode cX0_tentsOver 44 = .ok (.iload_n 2, 1) := by decide +kernel
theorem dX0_tentsOver_45 : decode cX0_tentsOver 45 = .ok (.iconst 1, 1) := by decide +kernel
theorem dX0_tentsOver_46 : decode cX0_tentsOver 46 = .ok (.iload_n 3, 1) := by decide +kernel
theorem dX0_tentsOver_47 : decode cX0_tentsOver 47 = .ok (.ishl, 1) := by decide +kernel
theorem dX0_tentsOver_48 : decode cX0_tentsOver 48 = .ok (.ior, 1) := by decide +kernel
theorem dX0_tentsOver_49 : decode cX0_tentsOver 49 = .ok (.istore_n 2, 1) := by decide +kernel
theorem dX0_tentsOver_50 : decode cX0_tentsOver 50 = .ok (.iinc 3 1, 3) := by decide +kernel
theorem dX0_tentsOver_53 : decode cX0_tentsOver 53 = .ok (.goto (-49), 3) := by decide +kernel
theorem dX0_tentsOver_56 : decode cX0_tentsOver 56 = .ok (.iload_n 2, 1) := by decide +kernel
theorem dX0_tentsOver_57 : decode cX0_tentsOver 57 = .ok (.ireturn, 1) := by decide +kernel
theorem dX0_cellsUnder_0 : decode cX0_cellsUnder 0 = .ok (.iconst 0, 1) := by decide +kernel
theorem dX0_cellsUnder_1 : decode cX0_cellsUnder 1 = .ok (.istore_n 1, 1) := by decide +kernel
theorem dX0_cellsUnder_2 : decode cX0_cellsUnder 2 = .ok (.iconst 0, 1) := by decide +kernel
theorem dX0_cellsUnder_3 : decode cX0_cellsUnder 3 = .ok (.istore_n 2, 1) := by decide +kernel
theorem dX0_cellsUnder_4 : decode cX0_cellsUnder 4 = .ok (.iload_n 2, 1) := by decide +kernel
theorem dX0_cellsUnder_5 : decode cX0_cellsUnder 5 = .ok (.iconst 4, 1) := by decide +kernel
theorem dX0_cellsUnder_6 : decode cX0_cellsUnder 6 = .ok (.if_icmp .ge 19, 3) := by decide +kernel
theorem dX0_cellsUnder_9 : decode cX0_cellsUnder 9 = .ok (.iload_n 1, 1) := by decide +kernel
theorem dX0_cellsUnder_10 : decode cX0_cellsUnder 10 = .ok (.iconst 1, 1) := by decide +kernel
theorem dX0_cellsUnder_11 : decode cX0_cellsUnder 11 = .ok (.iload_n 0, 1) := by decide +kernel
theorem dX0_cellsUnder_12 : decode cX0_cellsUnder 12 = .ok (.iload_n 2, 1) := by decide +kernel
theorem dX0_cellsUnder_13 : decode cX0_cellsUnder 13 = .ok (.invokestatic 76, 3) := by decide +kernel
theorem dX0_cellsUnder_16 : decode cX0_cellsUnder 16 = .ok (.ishl, 1) := by decide +kernel
theorem dX0_cellsUnder_17 : decode cX0_cellsUnder 17 = .ok (.ior, 1) := by decide +kernel
theorem dX0_cellsUnder_18 : decode cX0_cellsUnder 18 = .ok (.istore_n 1, 1) := by decide +kernel
theorem dX0_cellsUnder_19 : decode cX0_cellsUnder 19 = .ok (.iinc 2 1, 3) := by decide +kernel
theorem dX0_cellsUnder_22 : decode cX0_cellsUnder 22 = .ok (.goto (-18), 3) := by decide +kernel
theorem dX0_cellsUnder_25 : decode cX0_cellsUnder 25 = .ok (.iload_n 1, 1) := by decide +kernel
theorem dX0_cellsUnder_26 : decode cX0_cellsUnder 26 = .ok (.ireturn, 1) := by decide +kernel
theorem dX0_dryPitches_0 : decode cX0_dryPitches 0 = .ok (.iconst 0, 1) := by decide +kernel
theorem dX0_dryPitches_1 : decode cX0_dryPitches 1 = .ok (.istore_n 1, 1) := by decide +kernel
theorem dX0_dryPitches_2 : decode cX0_dryPitches 2 = .ok (.iconst 0, 1) := by decide +kernel
theorem dX0_dryPitches_3 : decode cX0_dryPitches 3 = .ok (.istore_n 2, 1) := by decide +kernel
theorem dX0_dryPitches_4 : decode cX0_dryPitches 4 = .ok (.iload_n 2, 1) := by decide +kernel
theorem dX0_dryPitches_5 : decode cX0_dryPitches 5 = .ok (.bipush 16, 2) := by decide +kernel
theorem dX0_dryPitches_7 : decode cX0_dryPitches 7 = .ok (.if_icmp .ge 24, 3) := by decide +kernel
theorem dX0_dryPitches_10 : decode cX0_dryPitches 10 = .ok (.iload_n 2, 1) := by decide +kernel
theorem dX0_dryPitches_11 : decode cX0_dryPitches 11 = .ok (.invokestatic 89, 3) := by decide +kernel
theorem dX0_dryPitches_14 : decode cX0_dryPitches 14 = .ok (.aload_n 0, 1) := by decide +kernel
theorem dX0_dryPitches_15 : decode cX0_dryPitches 15 = .ok (.getfield 28, 3) := by decide +kernel
theorem dX0_dryPitches_18 : decode cX0_dryPitches 18 = .ok (.iand, 1) := by decide +kernel
theorem dX0_dryPitches_19 : decode cX0_dryPitches 19 = .ok (.ifCond .ne 6, 3) := by decide +kernel
theorem dX0_dryPitches_22 : decode cX0_dryPitches 22 = .ok (.iinc 1 1, 3) := by decide +kernel
theorem dX0_dryPitches_25 : decode cX0_dryPitches 25 = .ok (.iinc 2 1, 3) := by decide +kernel
theorem dX0_dryPitches_28 : decode cX0_dryPitches 28 = .ok (.goto (-24), 3) := by decide +kernel
theorem dX0_dryPitches_31 : decode cX0_dryPitches 31 = .ok (.iload_n 1, 1) := by decide +kernel
theorem dX0_dryPitches_32 : decode cX0_dryPitches 32 = .ok (.ireturn, 1) := by decide +kernel
theorem dX0_steepnessAt_0 : decode cX0_steepnessAt 0 = .ok (.iconst 0, 1) := by decide +kernel
theorem dX0_steepnessAt_1 : decode cX0_steepnessAt 1 = .ok (.istore_n 2, 1) := by decide +kernel
theorem dX0_steepnessAt_2 : decode cX0_steepnessAt 2 = .ok (.iconst 0, 1) := by decide +kernel
theorem dX0_steepnessAt_3 : decode cX0_steepnessAt 3 = .ok (.istore_n 3, 1) := by decide +kernel
theorem dX0_steepnessAt_4 : decode cX0_steepnessAt 4 = .ok (.iload_n 3, 1) := by decide +kernel
theorem dX0_steepnessAt_5 : decode cX0_steepnessAt 5 = .ok (.iconst 4, 1) := by decide +kernel
theorem dX0_steepnessAt_6 : decode cX0_steepnessAt 6 = .ok (.if_icmp .ge 34, 3) := by decide +kernel
theorem dX0_steepnessAt_9 : decode cX0_steepnessAt 9 = .ok (.iload_n 1, 1) := by decide +kernel
theorem dX0_steepnessAt_10 : decode cX0_steepnessAt 10 = .ok (.iload_n 3, 1) := by decide +kernel
theorem dX0_steepnessAt_11 : decode cX0_steepnessAt 11 = .ok (.invokestatic 93, 3) := by decide +kernel
theorem dX0_steepnessAt_14 : decode cX0_steepnessAt 14 = .ok (.istore 4, 2) := by decide +kernel
theorem dX0_steepnessAt_16 : decode cX0_steepnessAt 16 = .ok (.iload 4, 2) := by decide +kernel
theorem dX0_steepnessAt_18 : decode cX0_steepnessAt 18 = .ok (.iconst (-1), 1) := by decide +kernel
theorem dX0_steepnessAt_19 : decode cX0_steepnessAt 19 = .ok (.if_icmp .eq 15, 3) := by decide +kernel
theorem dX0_steepnessAt_22 : decode cX0_steepnessAt 22 = .ok (.iload_n 2, 1) := by decide +kernel
theorem dX0_steepnessAt_23 : decode cX0_steepnessAt 23 = .ok (.aload_n 0, 1) := by decide +kernel
theorem dX0_steepnessAt_24 : decode cX0_steepnessAt 24 = .ok (.iload_n 1, 1) := by decide +kernel
theorem dX0_steepnessAt_25 : decode cX0_steepnessAt 25 = .ok (.iload 4, 2) := by decide +kernel
theorem dX0_steepnessAt_27 : decode cX0_steepnessAt 27 = .ok (.invokevirtual 96, 3) := by decide +kernel
theorem dX0_steepnessAt_30 : decode cX0_steepnessAt 30 = .ok (.invokestatic 99, 3) := by decide +kernel
theorem dX0_steepnessAt_33 : decode cX0_steepnessAt 33 = .ok (.istore_n 2, 1) := by decide +kernel
theorem dX0_steepnessAt_34 : decode cX0_steepnessAt 34 = .ok (.iinc 3 1, 3) := by decide +kernel
theorem dX0_steepnessAt_37 : decode cX0_steepnessAt 37 = .ok (.goto (-33), 3) := by decide +kernel
theorem dX0_steepnessAt_40 : decode cX0_steepnessAt 40 = .ok (.iload_n 2, 1) := by decide +kernel
theorem dX0_steepnessAt_41 : decode cX0_steepnessAt 41 = .ok (.ireturn, 1) := by decide +kernel
theorem dX0_climbBetween_0 : decode cX0_climbBetween 0 = .ok (.aload_n 0, 1) := by decide +kernel
theorem dX0_climbBetween_1 : decode cX0_climbBetween 1 = .ok (.getfield 9, 3) := by decide +kernel
theorem dX0_climbBetween_4 : decode cX0_climbBetween 4 = .ok (.iload_n 1, 1) := by decide +kernel
theorem dX0_climbBetween_5 : decode cX0_climbBetween 5 = .ok (.iaload, 1) := by decide +kernel
theorem dX0_climbBetween_6 : decode cX0_climbBetween 6 = .ok (.aload_n 0, 1) := by decide +kernel
theorem dX0_climbBetween_7 : decode cX0_climbBetween 7 = .ok (.getfield 9, 3) := by decide +kernel
theorem dX0_climbBetween_10 : decode cX0_climbBetween 10 = .ok (.iload_n 2, 1) := by decide +kernel
theorem dX0_climbBetween_11 : decode cX0_climbBetween 11 = .ok (.iaload, 1) := by decide +kernel
theorem dX0_climbBetween_12 : decode cX0_climbBetween 12 = .ok (.isub, 1) := by decide +kernel
theorem dX0_climbBetween_13 : decode cX0_climbBetween 13 = .ok (.invokestatic 104, 3) := by decide +kernel
theorem dX0_climbBetween_16 : decode cX0_climbBetween 16 = .ok (.ireturn, 1) := by decide +kernel
theorem dX0_isStep_0 : decode cX0_isStep 0 = .ok (.iconst 0, 1) := by decide +kernel
theorem dX0_isStep_1 : decode cX0_isStep 1 = .ok (.istore 4, 2) := by decide +kernel
theorem dX0_isStep_3 : decode cX0_isStep 3 = .ok (.iload 4, 2) := by decide +kernel
theorem dX0_isStep_5 : decode cX0_isStep 5 = .ok (.iconst 4, 1) := by decide +kernel
theorem dX0_isStep_6 : decode cX0_isStep 6 = .ok (.if_icmp .ge 35, 3) := by decide +kernel
theorem dX0_isStep_9 : decode cX0_isStep 9 = .ok (.iload_n 1, 1) := by decide +kernel
theorem dX0_isStep_10 : decode cX0_isStep 10 = .ok (.iload 4, 2) := by decide +kernel
theorem dX0_isStep_12 : decode cX0_isStep 12 = .ok (.invokestatic 93, 3) := by decide +kernel
theorem dX0_isStep_15 : decode cX0_isStep 15 = .ok (.iload_n 2, 1) := by decide +kernel
theorem dX0_isStep_16 : decode cX0_isStep 16 = .ok (.if_icmp .ne 19, 3) := by decide +kernel
theorem dX0_isStep_19 : decode cX0_isStep 19 = .ok (.aload_n 0, 1) := by decide +kernel
theorem dX0_isStep_20 : decode cX0_isStep 20 = .ok (.iload_n 1, 1) := by decide +kernel
theorem dX0_isStep_21 : decode cX0_isStep 21 = .ok (.iload_n 2, 1) := by decide +kernel
theorem dX0_isStep_22 : decode cX0_isStep 22 = .ok (.invokevirtual 96, 3) := by decide +kernel
theorem dX0_isStep_25 : decode cX0_isStep 25 = .ok (.iload_n 3, 1) := by decide +kernel
theorem dX0_isStep_26 : decode cX0_isStep 26 = .ok (.if_icmp .gt 7, 3) := by decide +kernel
theorem dX0_isStep_29 : decode cX0_isStep 29 = .ok (.iconst 1, 1) := by decide +kernel
theorem dX0_isStep_30 : decode cX0_isStep 30 = .ok (.goto 4, 3) := by decide +kernel
theorem dX0_isStep_33 : decode cX0_isStep 33 = .ok (.iconst 0, 1) := by decide +kernel
theorem dX0_isStep_34 : decode cX0_isStep 34 = .ok (.ireturn, 1) := by decide +kernel
theorem dX0_isStep_35 : decode cX0_isStep 35 = .ok (.iinc 4 1, 3) := by decide +kernel
theorem dX0_isStep_38 : decode cX0_isStep 38 = .ok (.goto (-35), 3) := by decide +kernel
theorem dX0_isStep_41 : decode cX0_isStep 41 = .ok (.iconst 0, 1) := by decide +kernel
theorem dX0_isStep_42 : decode cX0_isStep 42 = .ok (.ireturn, 1) := by decide +kernel
theorem dX0_heightSum_0 : decode cX0_heightSum 0 = .ok (.iconst 0, 1) := by decide +kernel
theorem dX0_heightSum_1 : decode cX0_heightSum 1 = .ok (.istore_n 1, 1) := by decide +kernel
theorem dX0_heightSum_2 : decode cX0_heightSum 2 = .ok (.iconst 0, 1) := by decide +kernel
theorem dX0_heightSum_3 : decode cX0_heightSum 3 = .ok (.istore_n 2, 1) := by decide +kernel
theorem dX0_heightSum_4 : decode cX0_heightSum 4 = .ok (.iload_n 2, 1) := by decide +kernel
theorem dX0_heightSum_5 : decode cX0_heightSum 5 = .ok (.bipush 25, 2) := by decide +kernel
theorem dX0_heightSum_7 : decode cX0_heightSum 7 = .ok (.if_icmp .ge 18, 3) := by decide +kernel
theorem dX0_heightSum_10 : decode cX0_heightSum 10 = .ok (.iload_n 1, 1) := by decide +kernel
theorem dX0_heightSum_11 : decode cX0_heightSum 11 = .ok (.aload_n 0, 1) := by decide +kernel
theorem dX0_heightSum_12 : decode cX0_heightSum 12 = .ok (.getfield 9, 3) := by decide +kernel
theorem dX0_heightSum_15 : decode cX0_heightSum 15 = .ok (.iload_n 2, 1) := by decide +kernel
theorem dX0_heightSum_16 : decode cX0_heightSum 16 = .ok (.iaload, 1) := by decide +kernel
theorem dX0_heightSum_17 : decode cX0_heightSum 17 = .ok (.iadd, 1) := by decide +kernel
theorem dX0_heightSum_18 : decode cX0_heightSum 18 = .ok (.istore_n 1, 1) := by decide +kernel
theorem dX0_heightSum_19 : decode cX0_heightSum 19 = .ok (.iinc 2 1, 3) := by decide +kernel
theorem dX0_heightSum_22 : decode cX0_heightSum 22 = .ok (.goto (-18), 3) := by decide +kernel
theorem dX0_heightSum_25 : decode cX0_heightSum 25 = .ok (.iload_n 1, 1) := by decide +kernel
theorem dX0_heightSum_26 : decode cX0_heightSum 26 = .ok (.ireturn, 1) := by decide +kernel
theorem dX0_relief_0 : decode cX0_relief 0 = .ok (.aload_n 0, 1) := by decide +kernel
theorem dX0_relief_1 : decode cX0_relief 1 = .ok (.getfield 9, 3) := by decide +kernel
theorem dX0_relief_4 : decode cX0_relief 4 = .ok (.iconst 0, 1) := by decide +kernel
theorem dX0_relief_5 : decode cX0_relief 5 = .ok (.iaload, 1) := by decide +kernel
theorem dX0_relief_6 : decode cX0_relief 6 = .ok (.istore_n 1, 1) := by decide +kernel
theorem dX0_relief_7 : decode cX0_relief 7 = .ok (.aload_n 0, 1) := by decide +kernel
theorem dX0_relief_8 : decode cX0_relief 8 = .ok (.getfield 9, 3) := by decide +kernel
theorem dX0_relief_11 : decode cX0_relief 11 = .ok (.iconst 0, 1) := by decide +kernel
theorem dX0_relief_12 : decode cX0_relief 12 = .ok (.iaload, 1) := by decide +kernel
theorem dX0_relief_13 : decode cX0_relief 13 = .ok (.istore_n 2, 1) := by decide +kernel
theorem dX0_relief_14 : decode cX0_relief 14 = .ok (.iconst 1, 1) := by decide +kernel
theorem dX0_relief_15 : decode cX0_relief 15 = .ok (.istore_n 3, 1) := by decide +kernel
theorem dX0_relief_16 : decode cX0_relief 16 = .ok (.iload_n 3, 1) := by decide +kernel
theorem dX0_relief_17 : decode cX0_relief 17 = .ok (.bipush 25, 2) := by decide +kernel
theorem dX0_relief_19 : decode cX0_relief 19 = .ok (.if_icmp .ge 31, 3) := by decide +kernel
theorem dX0_relief_22 : decode cX0_relief 22 = .ok (.iload_n 1, 1) := by decide +kernel
theorem dX0_relief_23 : decode cX0_relief 23 = .ok (.aload_n 0, 1) := by decide +kernel
theorem dX0_relief_24 : decode cX0_relief 24 = .ok (.getfield 9, 3) := by decide +kernel
theorem dX0_relief_27 : decode cX0_relief 27 = .ok (.iload_n 3, 1) := by decide +kernel
theorem dX0_relief_28 : decode cX0_relief 28 = .ok (.iaload, 1) := by decide +kernel
theorem dX0_relief_29 : decode cX0_relief 29 = .ok (.invokestatic 99, 3) := by decide +kernel
theorem dX0_relief_32 : decode cX0_relief 32 = .ok (.istore_n 1, 1) := by decide +kernel
theorem dX0_relief_33 : decode cX0_relief 33 = .ok (.iload_n 2, 1) := by decide +kernel
theorem dX0_relief_34 : decode cX0_relief 34 = .ok (.aload_n 0, 1) := by decide +kernel
theorem dX0_relief_35 : decode cX0_relief 35 = .ok (.getfield 9, 3) := by decide +kernel
theorem dX0_relief_38 : decode cX0_relief 38 = .ok (.iload_n 3, 1) := by decide +kernel
theorem dX0_relief_39 : decode cX0_relief 39 = .ok (.iaload, 1) := by decide +kernel
theorem dX0_relief_40 : decode cX0_relief 40 = .ok (.invokestatic 107, 3) := by decide +kernel
theorem dX0_relief_43 : decode cX0_relief 43 = .ok (.istore_n 2, 1) := by decide +kernel
theorem dX0_relief_44 : decode cX0_relief 44 = .ok (.iinc 3 1, 3) := by decide +kernel
theorem dX0_relief_47 : decode cX0_relief 47 = .ok (.goto (-31), 3) := by decide +kernel
theorem dX0_relief_50 : decode cX0_relief 50 = .ok (.iload_n 1, 1) := by decide +kernel
theorem dX0_relief_51 : decode cX0_relief 51 = .ok (.iload_n 2, 1) := by decide +kernel
theorem dX0_relief_52 : decode cX0_relief 52 = .ok (.isub, 1) := by decide +kernel
theorem dX0_relief_53 : decode cX0_relief 53 = .ok (.ireturn, 1) := by decide +kernel
theorem dX0_liesAs_0 : decode cX0_liesAs 0 = .ok (.iconst 0, 1) := by decide +kernel
theorem dX0_liesAs_1 : decode cX0_liesAs 1 = .ok (.istore_n 2, 1) := by decide +kernel
theorem dX0_liesAs_2 : decode cX0_liesAs 2 = .ok (.iload_n 2, 1) := by decide +kernel
theorem dX0_liesAs_3 : decode cX0_liesAs 3 = .ok (.bipush 25, 2) := by decide +kernel
theorem dX0_liesAs_5 : decode cX0_liesAs 5 = .ok (.if_icmp .ge 23, 3) := by decide +kernel
theorem dX0_liesAs_8 : decode cX0_liesAs 8 = .ok (.aload_n 0, 1) := by decide +kernel
theorem dX0_liesAs_9 : decode cX0_liesAs 9 = .ok (.getfield 9, 3) := by decide +kernel
theorem dX0_liesAs_12 : decode cX0_liesAs 12 = .ok (.iload_n 2, 1) := by decide +kernel
theorem dX0_liesAs_13 : decode cX0_liesAs 13 = .ok (.iaload, 1) := by decide +kernel
theorem dX0_liesAs_14 : decode cX0_liesAs 14 = .ok (.aload_n 1, 1) := by decide +kernel
theorem dX0_liesAs_15 : decode cX0_liesAs 15 = .ok (.iload_n 2, 1) := by decide +kernel
theorem dX0_liesAs_16 : decode cX0_liesAs 16 = .ok (.iaload, 1) := by decide +kernel
theorem dX0_liesAs_17 : decode cX0_liesAs 17 = .ok (.if_icmp .eq 5, 3) := by decide +kernel
theorem dX0_liesAs_20 : decode cX0_liesAs 20 = .ok (.iconst 0, 1) := by decide +kernel
theorem dX0_liesAs_21 : decode cX0_liesAs 21 = .ok (.ireturn, 1) := by decide +kernel
theorem dX0_liesAs_22 : decode cX0_liesAs 22 = .ok (.iinc 2 1, 3) := by decide +kernel
theorem dX0_liesAs_25 : decode cX0_liesAs 25 = .ok (.goto (-23), 3) := by decide +kernel
theorem dX0_liesAs_28 : decode cX0_liesAs 28 = .ok (.iconst 1, 1) := by decide +kernel
theorem dX0_liesAs_29 : decode cX0_liesAs 29 = .ok (.ireturn, 1) := by decide +kernel
theorem dX0_pitchedSet_0 : decode cX0_pitchedSet 0 = .ok (.iconst 0, 1) := by decide +kernel
theorem dX0_pitchedSet_1 : decode cX0_pitchedSet 1 = .ok (.istore_n 1, 1) := by decide +kernel
theorem dX0_pitchedSet_2 : decode cX0_pitchedSet 2 = .ok (.iconst 0, 1) := by decide +kernel
theorem dX0_pitchedSet_3 : decode cX0_pitchedSet 3 = .ok (.istore_n 2, 1) := by decide +kernel
theorem dX0_pitchedSet_4 : decode cX0_pitchedSet 4 = .ok (.iload_n 2, 1) := by decide +kernel
theorem dX0_pitchedSet_5 : decode cX0_pitchedSet 5 = .ok (.aload_n 0, 1) := by decide +kernel
theorem dX0_pitchedSet_6 : decode cX0_pitchedSet 6 = .ok (.getfield 24, 3) := by decide +kernel
theorem dX0_pitchedSet_9 : decode cX0_pitchedSet 9 = .ok (.if_icmp .ge 27, 3) := by decide +kernel
theorem dX0_pitchedSet_12 : decode cX0_pitchedSet 12 = .ok (.aload_n 0, 1) := by decide +kernel
theorem dX0_pitchedSet_13 : decode cX0_pitchedSet 13 = .ok (.getfield 20, 3) := by decide +kernel
theorem dX0_pitchedSet_16 : decode cX0_pitchedSet 16 = .ok (.iload_n 2, 1) := by decide +kernel
theorem dX0_pitchedSet_17 : decode cX0_pitchedSet 17 = .ok (.aaload, 1) := by decide +kernel
theorem dX0_pitchedSet_18 : decode cX0_pitchedSet 18 = .ok (.invokevirtual 65, 3) := by decide +kernel
theorem dX0_pitchedSet_21 : decode cX0_pitchedSet 21 = .ok (.ifCond .eq 9, 3) := by decide +kernel
theorem dX0_pitchedSet_24 : decode cX0_pitchedSet 24 = .ok (.iload_n 1, 1) := by decide +kernel
theorem dX0_pitchedSet_25 : decode cX0_pitchedSet 25 = .ok (.iconst 1, 1) := by decide +kernel
theorem dX0_pitchedSet_26 : decode cX0_pitchedSet 26 = .ok (.iload_n 2, 1) := by decide +kernel
theorem dX0_pitchedSet_27 : decode cX0_pitchedSet 27 = .ok (.ishl, 1) := by decide +kernel
theorem dX0_pitchedSet_28 : decode cX0_pitchedSet 28 = .ok (.ior, 1) := by decide +kernel
theorem dX0_pitchedSet_29 : decode cX0_pitchedSet 29 = .ok (.istore_n 1, 1) := by decide +kernel
theorem dX0_pitchedSet_30 : decode cX0_pitchedSet 30 = .ok (.iinc 2 1, 3) := by decide +kernel
theorem dX0_pitchedSet_33 : decode cX0_pitchedSet 33 = .ok (.goto (-29), 3) := by decide +kernel
theorem dX0_pitchedSet_36 : decode cX0_pitchedSet 36 = .ok (.iload_n 1, 1) := by decide +kernel
theorem dX0_pitchedSet_37 : decode cX0_pitchedSet 37 = .ok (.ireturn, 1) := by decide +kernel
theorem dX0_wornSum_0 : decode cX0_wornSum 0 = .ok (.iconst 0, 1) := by decide +kernel
theorem dX0_wornSum_1 : decode cX0_wornSum 1 = .ok (.istore_n 1, 1) := by decide +kernel
theorem dX0_wornSum_2 : decode cX0_wornSum 2 = .ok (.iconst 0, 1) := by decide +kernel
theorem dX0_wornSum_3 : decode cX0_wornSum 3 = .ok (.istore_n 2, 1) := by decide +kernel
theorem dX0_wornSum_4 : decode cX0_wornSum 4 = .ok (.iload_n 2, 1) := by decide +kernel
theorem dX0_wornSum_5 : decode cX0_wornSum 5 = .ok (.aload_n 0, 1) := by decide +kernel
theorem dX0_wornSum_6 : decode cX0_wornSum 6 = .ok (.getfield 24, 3) := by decide +kernel
theorem dX0_wornSum_9 : decode cX0_wornSum 9 = .ok (.if_icmp .ge 21, 3) := by decide +kernel
theorem dX0_wornSum_12 : decode cX0_wornSum 12 = .ok (.iload_n 1, 1) := by decide +kernel
theorem dX0_wornSum_13 : decode cX0_wornSum 13 = .ok (.aload_n 0, 1) := by decide +kernel
theorem dX0_wornSum_14 : decode cX0_wornSum 14 = .ok (.getfield 20, 3) := by decide +kernel
theorem dX0_wornSum_17 : decode cX0_wornSum 17 = .ok (.iload_n 2, 1) := by decide +kernel
theorem dX0_wornSum_18 : decode cX0_wornSum 18 = .ok (.aaload, 1) := by decide +kernel
theorem dX0_wornSum_19 : decode cX0_wornSum 19 = .ok (.getfield 110, 3) := by decide +kernel
theorem dX0_wornSum_22 : decode cX0_wornSum 22 = .ok (.iadd, 1) := by decide +kernel
theorem dX0_wornSum_23 : decode cX0_wornSum 23 = .ok (.istore_n 1, 1) := by decide +kernel
theorem dX0_wornSum_24 : decode cX0_wornSum 24 = .ok (.iinc 2 1, 3) := by decide +kernel
theorem dX0_wornSum_27 : decode cX0_wornSum 27 = .ok (.goto (-23), 3) := by decide +kernel
theorem dX0_wornSum_30 : decode cX0_wornSum 30 = .ok (.iload_n 1, 1) := by decide +kernel
theorem dX0_wornSum_31 : decode cX0_wornSum 31 = .ok (.ireturn, 1) := by decide +kernel
theorem dX0_spotsHeld_0 : decode cX0_spotsHeld 0 = .ok (.iconst 0, 1) := by decide +kernel
theorem dX0_spotsHeld_1 : decode cX0_spotsHeld 1 = .ok (.istore_n 1, 1) := by decide +kernel
theorem dX0_spotsHeld_2 : decode cX0_spotsHeld 2 = .ok (.iconst 0, 1) := by decide +kernel
theorem dX0_spotsHeld_3 : decode cX0_spotsHeld 3 = .ok (.istore_n 2, 1) := by decide +kernel
theorem dX0_spotsHeld_4 : decode cX0_spotsHeld 4 = .ok (.iload_n 2, 1) := by decide +kernel
theorem dX0_spotsHeld_5 : decode cX0_spotsHeld 5 = .ok (.bipush 10, 2) := by decide +kernel
theorem dX0_spotsHeld_7 : decode cX0_spotsHeld 7 = .ok (.if_icmp .ge 22, 3) := by decide +kernel
theorem dX0_spotsHeld_10 : decode cX0_spotsHeld 10 = .ok (.aload_n 0, 1) := by decide +kernel
theorem dX0_spotsHeld_11 : decode cX0_spotsHeld 11 = .ok (.getfield 15, 3) := by decide +kernel
theorem dX0_spotsHeld_14 : decode cX0_spotsHeld 14 = .ok (.iload_n 2, 1) := by decide +kernel
theorem dX0_spotsHeld_15 : decode cX0_spotsHeld 15 = .ok (.iaload, 1) := by decide +kernel
theorem dX0_spotsHeld_16 : decode cX0_spotsHeld 16 = .ok (.iconst (-1), 1) := by decide +kernel
theorem dX0_spotsHeld_17 : decode cX0_spotsHeld 17 = .ok (.if_icmp .eq 6, 3) := by decide +kernel
theorem dX0_spotsHeld_20 : decode cX0_spotsHeld 20 = .ok (.iinc 1 1, 3) := by decide +kernel
theorem dX0_spotsHeld_23 : decode cX0_spotsHeld 23 = .ok (.iinc 2 1, 3) := by decide +kernel
theorem dX0_spotsHeld_26 : decode cX0_spotsHeld 26 = .ok (.goto (-22), 3) := by decide +kernel
theorem dX0_spotsHeld_29 : decode cX0_spotsHeld 29 = .ok (.iload_n 1, 1) := by decide +kernel
theorem dX0_spotsHeld_30 : decode cX0_spotsHeld 30 = .ok (.ireturn, 1) := by decide +kernel
theorem dX0_gap_0 : decode cX0_gap 0 = .ok (.aload_n 1, 1) := by decide +kernel
theorem dX0_gap_1 : decode cX0_gap 1 = .ok (.getfield 80, 3) := by decide +kernel
theorem dX0_gap_4 : decode cX0_gap 4 = .ok (.iload_n 2, 1) := by decide +kernel
theorem dX0_gap_5 : decode cX0_gap 5 = .ok (.iaload, 1) := by decide +kernel
theorem dX0_gap_6 : decode cX0_gap 6 = .ok (.iconst (-1), 1) := by decide +kernel
theorem dX0_gap_7 : decode cX0_gap 7 = .ok (.if_icmp .ne 5, 3) := by decide +kernel
theorem dX0_gap_10 : decode cX0_gap 10 = .ok (.iconst 0, 1) := by decide +kernel
theorem dX0_gap_11 : decode cX0_gap 11 = .ok (.ireturn, 1) := by decide +kernel
theorem dX0_gap_12 : decode cX0_gap 12 = .ok (.aload_n 1, 1) := by decide +kernel
theorem dX0_gap_13 : decode cX0_gap 13 = .ok (.getfield 80, 3) := by decide +kernel
theorem dX0_gap_16 : decode cX0_gap 16 = .ok (.iload_n 2, 1) := by decide +kernel
theorem dX0_gap_17 : decode cX0_gap 17 = .ok (.iaload, 1) := by decide +kernel
theorem dX0_gap_18 : decode cX0_gap 18 = .ok (.aload_n 0, 1) := by decide +kernel
theorem dX0_gap_19 : decode cX0_gap 19 = .ok (.getfield 9, 3) := by decide +kernel
theorem dX0_gap_22 : decode cX0_gap 22 = .ok (.iload_n 3, 1) := by decide +kernel
theorem dX0_gap_23 : decode cX0_gap 23 = .ok (.iload_n 2, 1) := by decide +kernel
theorem dX0_gap_24 : decode cX0_gap 24 = .ok (.invokestatic 76, 3) := by decide +kernel
theorem dX0_gap_27 : decode cX0_gap 27 = .ok (.iaload, 1) := by decide +kernel
theorem dX0_gap_28 : decode cX0_gap 28 = .ok (.isub, 1) := by decide +kernel
theorem dX0_gap_29 : decode cX0_gap 29 = .ok (.invokestatic 104, 3) := by decide +kernel
theorem dX0_gap_32 : decode cX0_gap 32 = .ok (.ireturn, 1) := by decide +kernel
theorem dX0_unlikeness_0 : decode cX0_unlikeness 0 = .ok (.iconst 0, 1) := by decide +kernel
theorem dX0_unlikeness_1 : decode cX0_unlikeness 1 = .ok (.istore_n 3, 1) := by decide +kernel
theorem dX0_unlikeness_2 : decode cX0_unlikeness 2 = .ok (.iconst 0, 1) := by decide +kernel
theorem dX0_unlikeness_3 : decode cX0_unlikeness 3 = .ok (.istore 4, 2) := by decide +kernel
theorem dX0_unlikeness_5 : decode cX0_unlikeness 5 = .ok (.iload 4, 2) := by decide +kernel
theorem dX0_unlikeness_7 : decode cX0_unlikeness 7 = .ok (.iconst 4, 1) := by decide +kernel
theorem dX0_unlikeness_8 : decode cX0_unlikeness 8 = .ok (.if_icmp .ge 20, 3) := by decide +kernel
theorem dX0_unlikeness_11 : decode cX0_unlikeness 11 = .ok (.iload_n 3, 1) := by decide +kernel
