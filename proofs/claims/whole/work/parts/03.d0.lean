theorem dJ0_length_8abf5_0 : decode cJ0_length_8abf5 0 = .ok (.aload_n 0, 1) := by decide +kernel
theorem dJ0_length_8abf5_1 : decode cJ0_length_8abf5 1 = .ok (.getfield 9, 3) := by decide +kernel
theorem dJ0_length_8abf5_4 : decode cJ0_length_8abf5 4 = .ok (.arraylength, 1) := by decide +kernel
theorem dJ0_length_8abf5_5 : decode cJ0_length_8abf5 5 = .ok (.aload_n 0, 1) := by decide +kernel
theorem dJ0_length_8abf5_6 : decode cJ0_length_8abf5 6 = .ok (.invokevirtual 335, 3) := by decide +kernel
theorem dJ0_length_8abf5_9 : decode cJ0_length_8abf5 9 = .ok (.ishr, 1) := by decide +kernel
theorem dJ0_length_8abf5_10 : decode cJ0_length_8abf5 10 = .ok (.ireturn, 1) := by decide +kernel
theorem dJ0_charAt_5068e_0 : decode cJ0_charAt_5068e 0 = .ok (.aload_n 0, 1) := by decide +kernel
theorem dJ0_charAt_5068e_1 : decode cJ0_charAt_5068e 1 = .ok (.invokevirtual 492, 3) := by decide +kernel
theorem dJ0_charAt_5068e_4 : decode cJ0_charAt_5068e 4 = .ok (.ifCond .eq 12, 3) := by decide +kernel
theorem dJ0_charAt_5068e_7 : decode cJ0_charAt_5068e 7 = .ok (.aload_n 0, 1) := by decide +kernel
theorem dJ0_charAt_5068e_8 : decode cJ0_charAt_5068e 8 = .ok (.getfield 9, 3) := by decide +kernel
theorem dJ0_charAt_5068e_11 : decode cJ0_charAt_5068e 11 = .ok (.iload_n 1, 1) := by decide +kernel
theorem dJ0_charAt_5068e_12 : decode cJ0_charAt_5068e 12 = .ok (.invokestatic 495, 3) := by decide +kernel
theorem dJ0_charAt_5068e_15 : decode cJ0_charAt_5068e 15 = .ok (.ireturn, 1) := by decide +kernel
theorem dJ0_charAt_5068e_16 : decode cJ0_charAt_5068e 16 = .ok (.aload_n 0, 1) := by decide +kernel
theorem dJ0_charAt_5068e_17 : decode cJ0_charAt_5068e 17 = .ok (.getfield 9, 3) := by decide +kernel
theorem dJ0_charAt_5068e_20 : decode cJ0_charAt_5068e 20 = .ok (.iload_n 1, 1) := by decide +kernel
theorem dJ0_charAt_5068e_21 : decode cJ0_charAt_5068e 21 = .ok (.invokestatic 498, 3) := by decide +kernel
theorem dJ0_charAt_5068e_24 : decode cJ0_charAt_5068e 24 = .ok (.ireturn, 1) := by decide +kernel
theorem dJ0_coder_7d493_0 : decode cJ0_coder_7d493 0 = .ok (.getstatic 38, 3) := by decide +kernel
theorem dJ0_coder_7d493_3 : decode cJ0_coder_7d493 3 = .ok (.ifCond .eq 10, 3) := by decide +kernel
theorem dJ0_coder_7d493_6 : decode cJ0_coder_7d493 6 = .ok (.aload_n 0, 1) := by decide +kernel
theorem dJ0_coder_7d493_7 : decode cJ0_coder_7d493 7 = .ok (.getfield 15, 3) := by decide +kernel
theorem dJ0_coder_7d493_10 : decode cJ0_coder_7d493 10 = .ok (.goto 4, 3) := by decide +kernel
theorem dJ0_coder_7d493_13 : decode cJ0_coder_7d493 13 = .ok (.iconst 1, 1) := by decide +kernel
theorem dJ0_coder_7d493_14 : decode cJ0_coder_7d493 14 = .ok (.ireturn, 1) := by decide +kernel
theorem dJ0_isLatin1_aae02_0 : decode cJ0_isLatin1_aae02 0 = .ok (.getstatic 38, 3) := by decide +kernel
theorem dJ0_isLatin1_aae02_3 : decode cJ0_isLatin1_aae02 3 = .ok (.ifCond .eq 14, 3) := by decide +kernel
theorem dJ0_isLatin1_aae02_6 : decode cJ0_isLatin1_aae02 6 = .ok (.aload_n 0, 1) := by decide +kernel
theorem dJ0_isLatin1_aae02_7 : decode cJ0_isLatin1_aae02 7 = .ok (.getfield 15, 3) := by decide +kernel
theorem dJ0_isLatin1_aae02_10 : decode cJ0_isLatin1_aae02 10 = .ok (.ifCond .ne 7, 3) := by decide +kernel
theorem dJ0_isLatin1_aae02_13 : decode cJ0_isLatin1_aae02 13 = .ok (.iconst 1, 1) := by decide +kernel
theorem dJ0_isLatin1_aae02_14 : decode cJ0_isLatin1_aae02 14 = .ok (.goto 4, 3) := by decide +kernel
theorem dJ0_isLatin1_aae02_17 : decode cJ0_isLatin1_aae02 17 = .ok (.iconst 0, 1) := by decide +kernel
theorem dJ0_isLatin1_aae02_18 : decode cJ0_isLatin1_aae02 18 = .ok (.ireturn, 1) := by decide +kernel
theorem dJ0_checkIndex_df160_0 : decode cJ0_checkIndex_df160 0 = .ok (.iload_n 0, 1) := by decide +kernel
theorem dJ0_checkIndex_df160_1 : decode cJ0_checkIndex_df160 1 = .ok (.iload_n 1, 1) := by decide +kernel
theorem dJ0_checkIndex_df160_2 : decode cJ0_checkIndex_df160 2 = .ok (.getstatic 1053, 3) := by decide +kernel
theorem dJ0_checkIndex_df160_5 : decode cJ0_checkIndex_df160 5 = .ok (.invokestatic 1059, 3) := by decide +kernel
theorem dJ0_checkIndex_df160_8 : decode cJ0_checkIndex_df160 8 = .ok (.pop, 1) := by decide +kernel
theorem dJ0_checkIndex_df160_9 : decode cJ0_checkIndex_df160 9 = .ok (.return_, 1) := by decide +kernel
theorem dJ1_charAt_3b067_0 : decode cJ1_charAt_3b067 0 = .ok (.iload_n 1, 1) := by decide +kernel
theorem dJ1_charAt_3b067_1 : decode cJ1_charAt_3b067 1 = .ok (.aload_n 0, 1) := by decide +kernel
theorem dJ1_charAt_3b067_2 : decode cJ1_charAt_3b067 2 = .ok (.arraylength, 1) := by decide +kernel
theorem dJ1_charAt_3b067_3 : decode cJ1_charAt_3b067 3 = .ok (.invokestatic 9, 3) := by decide +kernel
theorem dJ1_charAt_3b067_6 : decode cJ1_charAt_3b067 6 = .ok (.aload_n 0, 1) := by decide +kernel
theorem dJ1_charAt_3b067_7 : decode cJ1_charAt_3b067 7 = .ok (.iload_n 1, 1) := by decide +kernel
theorem dJ1_charAt_3b067_8 : decode cJ1_charAt_3b067 8 = .ok (.baload, 1) := by decide +kernel
theorem dJ1_charAt_3b067_9 : decode cJ1_charAt_3b067 9 = .ok (.sipush 255, 3) := by decide +kernel
theorem dJ1_charAt_3b067_12 : decode cJ1_charAt_3b067 12 = .ok (.iand, 1) := by decide +kernel
theorem dJ1_charAt_3b067_13 : decode cJ1_charAt_3b067 13 = .ok (.i2c, 1) := by decide +kernel
theorem dJ1_charAt_3b067_14 : decode cJ1_charAt_3b067 14 = .ok (.ireturn, 1) := by decide +kernel
theorem dJ2_getChar_3b067_0 : decode cJ2_getChar_3b067 0 = .ok (.getstatic 44, 3) := by decide +kernel
theorem dJ2_getChar_3b067_3 : decode cJ2_getChar_3b067 3 = .ok (.ifCond .ne 25, 3) := by decide +kernel
theorem dJ2_getChar_3b067_6 : decode cJ2_getChar_3b067 6 = .ok (.iload_n 1, 1) := by decide +kernel
theorem dJ2_getChar_3b067_7 : decode cJ2_getChar_3b067 7 = .ok (.ifCond .lt 11, 3) := by decide +kernel
theorem dJ2_getChar_3b067_10 : decode cJ2_getChar_3b067 10 = .ok (.iload_n 1, 1) := by decide +kernel
theorem dJ2_getChar_3b067_11 : decode cJ2_getChar_3b067 11 = .ok (.aload_n 0, 1) := by decide +kernel
theorem dJ2_getChar_3b067_12 : decode cJ2_getChar_3b067 12 = .ok (.invokestatic 48, 3) := by decide +kernel
theorem dJ2_getChar_3b067_15 : decode cJ2_getChar_3b067 15 = .ok (.if_icmp .lt 13, 3) := by decide +kernel
theorem dJ2_getChar_3b067_18 : decode cJ2_getChar_3b067 18 = .ok (.new 52, 3) := by decide +kernel
theorem dJ2_getChar_3b067_21 : decode cJ2_getChar_3b067 21 = .ok (.dup, 1) := by decide +kernel
theorem dJ2_getChar_3b067_22 : decode cJ2_getChar_3b067 22 = .ok (.ldc 54, 2) := by decide +kernel
theorem dJ2_getChar_3b067_24 : decode cJ2_getChar_3b067 24 = .ok (.invokespecial 56, 3) := by decide +kernel
theorem dJ2_getChar_3b067_27 : decode cJ2_getChar_3b067 27 = .ok (.athrow, 1) := by decide +kernel
theorem dJ2_getChar_3b067_28 : decode cJ2_getChar_3b067 28 = .ok (.iload_n 1, 1) := by decide +kernel
theorem dJ2_getChar_3b067_29 : decode cJ2_getChar_3b067 29 = .ok (.iconst 1, 1) := by decide +kernel
theorem dJ2_getChar_3b067_30 : decode cJ2_getChar_3b067 30 = .ok (.ishl, 1) := by decide +kernel
theorem dJ2_getChar_3b067_31 : decode cJ2_getChar_3b067 31 = .ok (.istore_n 1, 1) := by decide +kernel
theorem dJ2_getChar_3b067_32 : decode cJ2_getChar_3b067 32 = .ok (.aload_n 0, 1) := by decide +kernel
theorem dJ2_getChar_3b067_33 : decode cJ2_getChar_3b067 33 = .ok (.iload_n 1, 1) := by decide +kernel
theorem dJ2_getChar_3b067_34 : decode cJ2_getChar_3b067 34 = .ok (.iinc 1 1, 3) := by decide +kernel
theorem dJ2_getChar_3b067_37 : decode cJ2_getChar_3b067 37 = .ok (.baload, 1) := by decide +kernel
theorem dJ2_getChar_3b067_38 : decode cJ2_getChar_3b067 38 = .ok (.sipush 255, 3) := by decide +kernel
theorem dJ2_getChar_3b067_41 : decode cJ2_getChar_3b067 41 = .ok (.iand, 1) := by decide +kernel
theorem dJ2_getChar_3b067_42 : decode cJ2_getChar_3b067 42 = .ok (.getstatic 59, 3) := by decide +kernel
theorem dJ2_getChar_3b067_45 : decode cJ2_getChar_3b067 45 = .ok (.ishl, 1) := by decide +kernel
theorem dJ2_getChar_3b067_46 : decode cJ2_getChar_3b067 46 = .ok (.aload_n 0, 1) := by decide +kernel
theorem dJ2_getChar_3b067_47 : decode cJ2_getChar_3b067 47 = .ok (.iload_n 1, 1) := by decide +kernel
theorem dJ2_getChar_3b067_48 : decode cJ2_getChar_3b067 48 = .ok (.baload, 1) := by decide +kernel
theorem dJ2_getChar_3b067_49 : decode cJ2_getChar_3b067 49 = .ok (.sipush 255, 3) := by decide +kernel
theorem dJ2_getChar_3b067_52 : decode cJ2_getChar_3b067 52 = .ok (.iand, 1) := by decide +kernel
theorem dJ2_getChar_3b067_53 : decode cJ2_getChar_3b067 53 = .ok (.getstatic 63, 3) := by decide +kernel
theorem dJ2_getChar_3b067_56 : decode cJ2_getChar_3b067 56 = .ok (.ishl, 1) := by decide +kernel
theorem dJ2_getChar_3b067_57 : decode cJ2_getChar_3b067 57 = .ok (.ior, 1) := by decide +kernel
theorem dJ2_getChar_3b067_58 : decode cJ2_getChar_3b067 58 = .ok (.i2c, 1) := by decide +kernel
theorem dJ2_getChar_3b067_59 : decode cJ2_getChar_3b067 59 = .ok (.ireturn, 1) := by decide +kernel
theorem dJ2_length_9d52b_0 : decode cJ2_length_9d52b 0 = .ok (.aload_n 0, 1) := by decide +kernel
theorem dJ2_length_9d52b_1 : decode cJ2_length_9d52b 1 = .ok (.arraylength, 1) := by decide +kernel
theorem dJ2_length_9d52b_2 : decode cJ2_length_9d52b 2 = .ok (.iconst 1, 1) := by decide +kernel
theorem dJ2_length_9d52b_3 : decode cJ2_length_9d52b 3 = .ok (.ishr, 1) := by decide +kernel
theorem dJ2_length_9d52b_4 : decode cJ2_length_9d52b 4 = .ok (.ireturn, 1) := by decide +kernel
theorem dJ2_charAt_3b067_0 : decode cJ2_charAt_3b067 0 = .ok (.iload_n 1, 1) := by decide +kernel
theorem dJ2_charAt_3b067_1 : decode cJ2_charAt_3b067 1 = .ok (.aload_n 0, 1) := by decide +kernel
theorem dJ2_charAt_3b067_2 : decode cJ2_charAt_3b067 2 = .ok (.invokestatic 67, 3) := by decide +kernel
theorem dJ2_charAt_3b067_5 : decode cJ2_charAt_3b067 5 = .ok (.aload_n 0, 1) := by decide +kernel
theorem dJ2_charAt_3b067_6 : decode cJ2_charAt_3b067 6 = .ok (.iload_n 1, 1) := by decide +kernel
theorem dJ2_charAt_3b067_7 : decode cJ2_charAt_3b067 7 = .ok (.invokestatic 71, 3) := by decide +kernel
theorem dJ2_charAt_3b067_10 : decode cJ2_charAt_3b067 10 = .ok (.ireturn, 1) := by decide +kernel
theorem dJ2_checkIndex_2214a_0 : decode cJ2_checkIndex_2214a 0 = .ok (.iload_n 0, 1) := by decide +kernel
theorem dJ2_checkIndex_2214a_1 : decode cJ2_checkIndex_2214a 1 = .ok (.aload_n 1, 1) := by decide +kernel
theorem dJ2_checkIndex_2214a_2 : decode cJ2_checkIndex_2214a 2 = .ok (.invokestatic 48, 3) := by decide +kernel
theorem dJ2_checkIndex_2214a_5 : decode cJ2_checkIndex_2214a 5 = .ok (.invokestatic 414, 3) := by decide +kernel
theorem dJ2_checkIndex_2214a_8 : decode cJ2_checkIndex_2214a 8 = .ok (.return_, 1) := by decide +kernel
theorem dJ3_checkIndex_8e157_0 : decode cJ3_checkIndex_8e157 0 = .ok (.iload_n 0, 1) := by decide +kernel
theorem dJ3_checkIndex_8e157_1 : decode cJ3_checkIndex_8e157 1 = .ok (.ifCond .lt 8, 3) := by decide +kernel
theorem dJ3_checkIndex_8e157_4 : decode cJ3_checkIndex_8e157 4 = .ok (.iload_n 0, 1) := by decide +kernel
theorem dJ3_checkIndex_8e157_5 : decode cJ3_checkIndex_8e157 5 = .ok (.iload_n 1, 1) := by decide +kernel
theorem dJ3_checkIndex_8e157_6 : decode cJ3_checkIndex_8e157 6 = .ok (.if_icmp .lt 10, 3) := by decide +kernel
theorem dJ3_checkIndex_8e157_9 : decode cJ3_checkIndex_8e157 9 = .ok (.aload_n 2, 1) := by decide +kernel
theorem dJ3_checkIndex_8e157_10 : decode cJ3_checkIndex_8e157 10 = .ok (.iload_n 0, 1) := by decide +kernel
theorem dJ3_checkIndex_8e157_11 : decode cJ3_checkIndex_8e157 11 = .ok (.iload_n 1, 1) := by decide +kernel
theorem dJ3_checkIndex_8e157_12 : decode cJ3_checkIndex_8e157 12 = .ok (.invokestatic 95, 3) := by decide +kernel
theorem dJ3_checkIndex_8e157_15 : decode cJ3_checkIndex_8e157 15 = .ok (.athrow, 1) := by decide +kernel
theorem dJ3_checkIndex_8e157_16 : decode cJ3_checkIndex_8e157 16 = .ok (.iload_n 0, 1) := by decide +kernel
theorem dJ3_checkIndex_8e157_17 : decode cJ3_checkIndex_8e157 17 = .ok (.ireturn, 1) := by decide +kernel
theorem dJ6_bitCount_0f7a4_0 : decode cJ6_bitCount_0f7a4 0 = .ok (.iload_n 0, 1) := by decide +kernel
theorem dJ6_bitCount_0f7a4_1 : decode cJ6_bitCount_0f7a4 1 = .ok (.iload_n 0, 1) := by decide +kernel
theorem dJ6_bitCount_0f7a4_2 : decode cJ6_bitCount_0f7a4 2 = .ok (.iconst 1, 1) := by decide +kernel
theorem dJ6_bitCount_0f7a4_3 : decode cJ6_bitCount_0f7a4 3 = .ok (.iushr, 1) := by decide +kernel
theorem dJ6_bitCount_0f7a4_4 : decode cJ6_bitCount_0f7a4 4 = .ok (.ldc_w 265, 3) := by decide +kernel
theorem dJ6_bitCount_0f7a4_7 : decode cJ6_bitCount_0f7a4 7 = .ok (.iand, 1) := by decide +kernel
theorem dJ6_bitCount_0f7a4_8 : decode cJ6_bitCount_0f7a4 8 = .ok (.isub, 1) := by decide +kernel
theorem dJ6_bitCount_0f7a4_9 : decode cJ6_bitCount_0f7a4 9 = .ok (.istore_n 0, 1) := by decide +kernel
theorem dJ6_bitCount_0f7a4_10 : decode cJ6_bitCount_0f7a4 10 = .ok (.iload_n 0, 1) := by decide +kernel
theorem dJ6_bitCount_0f7a4_11 : decode cJ6_bitCount_0f7a4 11 = .ok (.ldc_w 266, 3) := by decide +kernel
theorem dJ6_bitCount_0f7a4_14 : decode cJ6_bitCount_0f7a4 14 = .ok (.iand, 1) := by decide +kernel
theorem dJ6_bitCount_0f7a4_15 : decode cJ6_bitCount_0f7a4 15 = .ok (.iload_n 0, 1) := by decide +kernel
theorem dJ6_bitCount_0f7a4_16 : decode cJ6_bitCount_0f7a4 16 = .ok (.iconst 2, 1) := by decide +kernel
theorem dJ6_bitCount_0f7a4_17 : decode cJ6_bitCount_0f7a4 17 = .ok (.iushr, 1) := by decide +kernel
theorem dJ6_bitCount_0f7a4_18 : decode cJ6_bitCount_0f7a4 18 = .ok (.ldc_w 266, 3) := by decide +kernel
theorem dJ6_bitCount_0f7a4_21 : decode cJ6_bitCount_0f7a4 21 = .ok (.iand, 1) := by decide +kernel
theorem dJ6_bitCount_0f7a4_22 : decode cJ6_bitCount_0f7a4 22 = .ok (.iadd, 1) := by decide +kernel
theorem dJ6_bitCount_0f7a4_23 : decode cJ6_bitCount_0f7a4 23 = .ok (.istore_n 0, 1) := by decide +kernel
theorem dJ6_bitCount_0f7a4_24 : decode cJ6_bitCount_0f7a4 24 = .ok (.iload_n 0, 1) := by decide +kernel
theorem dJ6_bitCount_0f7a4_25 : decode cJ6_bitCount_0f7a4 25 = .ok (.iload_n 0, 1) := by decide +kernel
theorem dJ6_bitCount_0f7a4_26 : decode cJ6_bitCount_0f7a4 26 = .ok (.iconst 4, 1) := by decide +kernel
theorem dJ6_bitCount_0f7a4_27 : decode cJ6_bitCount_0f7a4 27 = .ok (.iushr, 1) := by decide +kernel
theorem dJ6_bitCount_0f7a4_28 : decode cJ6_bitCount_0f7a4 28 = .ok (.iadd, 1) := by decide +kernel
theorem dJ6_bitCount_0f7a4_29 : decode cJ6_bitCount_0f7a4 29 = .ok (.ldc_w 267, 3) := by decide +kernel
theorem dJ6_bitCount_0f7a4_32 : decode cJ6_bitCount_0f7a4 32 = .ok (.iand, 1) := by decide +kernel
theorem dJ6_bitCount_0f7a4_33 : decode cJ6_bitCount_0f7a4 33 = .ok (.istore_n 0, 1) := by decide +kernel
theorem dJ6_bitCount_0f7a4_34 : decode cJ6_bitCount_0f7a4 34 = .ok (.iload_n 0, 1) := by decide +kernel
theorem dJ6_bitCount_0f7a4_35 : decode cJ6_bitCount_0f7a4 35 = .ok (.iload_n 0, 1) := by decide +kernel
theorem dJ6_bitCount_0f7a4_36 : decode cJ6_bitCount_0f7a4 36 = .ok (.bipush 8, 2) := by decide +kernel
theorem dJ6_bitCount_0f7a4_38 : decode cJ6_bitCount_0f7a4 38 = .ok (.iushr, 1) := by decide +kernel
theorem dJ6_bitCount_0f7a4_39 : decode cJ6_bitCount_0f7a4 39 = .ok (.iadd, 1) := by decide +kernel
theorem dJ6_bitCount_0f7a4_40 : decode cJ6_bitCount_0f7a4 40 = .ok (.istore_n 0, 1) := by decide +kernel
theorem dJ6_bitCount_0f7a4_41 : decode cJ6_bitCount_0f7a4 41 = .ok (.iload_n 0, 1) := by decide +kernel
theorem dJ6_bitCount_0f7a4_42 : decode cJ6_bitCount_0f7a4 42 = .ok (.iload_n 0, 1) := by decide +kernel
theorem dJ6_bitCount_0f7a4_43 : decode cJ6_bitCount_0f7a4 43 = .ok (.bipush 16, 2) := by decide +kernel
theorem dJ6_bitCount_0f7a4_45 : decode cJ6_bitCount_0f7a4 45 = .ok (.iushr, 1) := by decide +kernel
theorem dJ6_bitCount_0f7a4_46 : decode cJ6_bitCount_0f7a4 46 = .ok (.iadd, 1) := by decide +kernel
theorem dJ6_bitCount_0f7a4_47 : decode cJ6_bitCount_0f7a4 47 = .ok (.istore_n 0, 1) := by decide +kernel
theorem dJ6_bitCount_0f7a4_48 : decode cJ6_bitCount_0f7a4 48 = .ok (.iload_n 0, 1) := by decide +kernel
theorem dJ6_bitCount_0f7a4_49 : decode cJ6_bitCount_0f7a4 49 = .ok (.bipush 63, 2) := by decide +kernel
theorem dJ6_bitCount_0f7a4_51 : decode cJ6_bitCount_0f7a4 51 = .ok (.iand, 1) := by decide +kernel
theorem dJ6_bitCount_0f7a4_52 : decode cJ6_bitCount_0f7a4 52 = .ok (.ireturn, 1) := by decide +kernel
theorem dJ7_fill_53178_0 : decode cJ7_fill_53178 0 = .ok (.iconst 0, 1) := by decide +kernel
theorem dJ7_fill_53178_1 : decode cJ7_fill_53178 1 = .ok (.istore_n 2, 1) := by decide +kernel
theorem dJ7_fill_53178_2 : decode cJ7_fill_53178 2 = .ok (.aload_n 0, 1) := by decide +kernel
theorem dJ7_fill_53178_3 : decode cJ7_fill_53178 3 = .ok (.arraylength, 1) := by decide +kernel
theorem dJ7_fill_53178_4 : decode cJ7_fill_53178 4 = .ok (.istore_n 3, 1) := by decide +kernel
theorem dJ7_fill_53178_5 : decode cJ7_fill_53178 5 = .ok (.iload_n 2, 1) := by decide +kernel
theorem dJ7_fill_53178_6 : decode cJ7_fill_53178 6 = .ok (.iload_n 3, 1) := by decide +kernel
theorem dJ7_fill_53178_7 : decode cJ7_fill_53178 7 = .ok (.if_icmp .ge 13, 3) := by decide +kernel
theorem dJ7_fill_53178_10 : decode cJ7_fill_53178 10 = .ok (.aload_n 0, 1) := by decide +kernel
theorem dJ7_fill_53178_11 : decode cJ7_fill_53178 11 = .ok (.iload_n 2, 1) := by decide +kernel
theorem dJ7_fill_53178_12 : decode cJ7_fill_53178 12 = .ok (.iload_n 1, 1) := by decide +kernel
theorem dJ7_fill_53178_13 : decode cJ7_fill_53178 13 = .ok (.iastore, 1) := by decide +kernel
theorem dJ7_fill_53178_14 : decode cJ7_fill_53178 14 = .ok (.iinc 2 1, 3) := by decide +kernel
theorem dJ7_fill_53178_17 : decode cJ7_fill_53178 17 = .ok (.goto (-12), 3) := by decide +kernel
theorem dJ7_fill_53178_20 : decode cJ7_fill_53178 20 = .ok (.return_, 1) := by decide +kernel
theorem dJ9_floorMod_7cf53_0 : decode cJ9_floorMod_7cf53 0 = .ok (.iload_n 0, 1) := by decide +kernel
theorem dJ9_floorMod_7cf53_1 : decode cJ9_floorMod_7cf53 1 = .ok (.iload_n 1, 1) := by decide +kernel
theorem dJ9_floorMod_7cf53_2 : decode cJ9_floorMod_7cf53 2 = .ok (.irem, 1) := by decide +kernel
theorem dJ9_floorMod_7cf53_3 : decode cJ9_floorMod_7cf53 3 = .ok (.istore_n 2, 1) := by decide +kernel
theorem dJ9_floorMod_7cf53_4 : decode cJ9_floorMod_7cf53 4 = .ok (.iload_n 0, 1) := by decide +kernel
theorem dJ9_floorMod_7cf53_5 : decode cJ9_floorMod_7cf53 5 = .ok (.iload_n 1, 1) := by decide +kernel
theorem dJ9_floorMod_7cf53_6 : decode cJ9_floorMod_7cf53 6 = .ok (.ixor, 1) := by decide +kernel
theorem dJ9_floorMod_7cf53_7 : decode cJ9_floorMod_7cf53 7 = .ok (.ifCond .ge 11, 3) := by decide +kernel
theorem dJ9_floorMod_7cf53_10 : decode cJ9_floorMod_7cf53 10 = .ok (.iload_n 2, 1) := by decide +kernel
theorem dJ9_floorMod_7cf53_11 : decode cJ9_floorMod_7cf53 11 = .ok (.ifCond .eq 7, 3) := by decide +kernel
theorem dJ9_floorMod_7cf53_14 : decode cJ9_floorMod_7cf53 14 = .ok (.iload_n 2, 1) := by decide +kernel
theorem dJ9_floorMod_7cf53_15 : decode cJ9_floorMod_7cf53 15 = .ok (.iload_n 1, 1) := by decide +kernel
theorem dJ9_floorMod_7cf53_16 : decode cJ9_floorMod_7cf53 16 = .ok (.iadd, 1) := by decide +kernel
theorem dJ9_floorMod_7cf53_17 : decode cJ9_floorMod_7cf53 17 = .ok (.ireturn, 1) := by decide +kernel
theorem dJ9_floorMod_7cf53_18 : decode cJ9_floorMod_7cf53 18 = .ok (.iload_n 2, 1) := by decide +kernel
theorem dJ9_floorMod_7cf53_19 : decode cJ9_floorMod_7cf53 19 = .ok (.ireturn, 1) := by decide +kernel
theorem dJ9_abs_0f7a4_0 : decode cJ9_abs_0f7a4 0 = .ok (.iload_n 0, 1) := by decide +kernel
theorem dJ9_abs_0f7a4_1 : decode cJ9_abs_0f7a4 1 = .ok (.ifCond .ge 8, 3) := by decide +kernel
theorem dJ9_abs_0f7a4_4 : decode cJ9_abs_0f7a4 4 = .ok (.iload_n 0, 1) := by decide +kernel
theorem dJ9_abs_0f7a4_5 : decode cJ9_abs_0f7a4 5 = .ok (.ineg, 1) := by decide +kernel
theorem dJ9_abs_0f7a4_6 : decode cJ9_abs_0f7a4 6 = .ok (.goto 4, 3) := by decide +kernel
theorem dJ9_abs_0f7a4_9 : decode cJ9_abs_0f7a4 9 = .ok (.iload_n 0, 1) := by decide +kernel
theorem dJ9_abs_0f7a4_10 : decode cJ9_abs_0f7a4 10 = .ok (.ireturn, 1) := by decide +kernel
theorem dJ9_max_7cf53_0 : decode cJ9_max_7cf53 0 = .ok (.iload_n 0, 1) := by decide +kernel
theorem dJ9_max_7cf53_1 : decode cJ9_max_7cf53 1 = .ok (.iload_n 1, 1) := by decide +kernel
theorem dJ9_max_7cf53_2 : decode cJ9_max_7cf53 2 = .ok (.if_icmp .lt 7, 3) := by decide +kernel
theorem dJ9_max_7cf53_5 : decode cJ9_max_7cf53 5 = .ok (.iload_n 0, 1) := by decide +kernel
theorem dJ9_max_7cf53_6 : decode cJ9_max_7cf53 6 = .ok (.goto 4, 3) := by decide +kernel
theorem dJ9_max_7cf53_9 : decode cJ9_max_7cf53 9 = .ok (.iload_n 1, 1) := by decide +kernel
theorem dJ9_max_7cf53_10 : decode cJ9_max_7cf53 10 = .ok (.ireturn, 1) := by decide +kernel
theorem dJ9_min_7cf53_0 : decode cJ9_min_7cf53 0 = .ok (.iload_n 0, 1) := by decide +kernel
theorem dJ9_min_7cf53_1 : decode cJ9_min_7cf53 1 = .ok (.iload_n 1, 1) := by decide +kernel
theorem dJ9_min_7cf53_2 : decode cJ9_min_7cf53 2 = .ok (.if_icmp .gt 7, 3) := by decide +kernel
theorem dJ9_min_7cf53_5 : decode cJ9_min_7cf53 5 = .ok (.iload_n 0, 1) := by decide +kernel
theorem dJ9_min_7cf53_6 : decode cJ9_min_7cf53 6 = .ok (.goto 4, 3) := by decide +kernel
theorem dJ9_min_7cf53_9 : decode cJ9_min_7cf53 9 = .ok (.iload_n 1, 1) := by decide +kernel
theorem dJ9_min_7cf53_10 : decode cJ9_min_7cf53 10 = .ok (.ireturn, 1) := by decide +kernel
theorem dL_never_0 : decode cL_never 0 = .ok (.aload_n 2, 1) := by decide +kernel
theorem dL_never_1 : decode cL_never 1 = .ok (.iconst 0, 1) := by decide +kernel
theorem dL_never_2 : decode cL_never 2 = .ok (.aload_n 0, 1) := by decide +kernel
theorem dL_never_3 : decode cL_never 3 = .ok (.iload_n 1, 1) := by decide +kernel
theorem dL_never_4 : decode cL_never 4 = .ok (.invokevirtual 7, 3) := by decide +kernel
theorem dL_never_7 : decode cL_never 7 = .ok (.i2l, 1) := by decide +kernel
theorem dL_never_8 : decode cL_never 8 = .ok (.lastore, 1) := by decide +kernel
theorem dL_never_9 : decode cL_never 9 = .ok (.goto 6, 3) := by decide +kernel
theorem dL_never_12 : decode cL_never 12 = .ok (.astore_n 3, 1) := by decide +kernel
theorem dL_never_13 : decode cL_never 13 = .ok (.iconst 1, 1) := by decide +kernel
theorem dL_never_14 : decode cL_never 14 = .ok (.ireturn, 1) := by decide +kernel
theorem dL_never_15 : decode cL_never 15 = .ok (.iconst 0, 1) := by decide +kernel
theorem dL_never_16 : decode cL_never 16 = .ok (.ireturn, 1) := by decide +kernel
theorem dL_law_0 : decode cL_law 0 = .ok (.new 8, 3) := by decide +kernel
theorem dL_law_3 : decode cL_law 3 = .ok (.dup, 1) := by decide +kernel
theorem dL_law_4 : decode cL_law 4 = .ok (.invokespecial 15, 3) := by decide +kernel
theorem dL_law_7 : decode cL_law 7 = .ok (.astore_n 1, 1) := by decide +kernel
theorem dL_law_8 : decode cL_law 8 = .ok (.new 16, 3) := by decide +kernel
theorem dL_law_11 : decode cL_law 11 = .ok (.dup, 1) := by decide +kernel
theorem dL_law_12 : decode cL_law 12 = .ok (.invokespecial 18, 3) := by decide +kernel
theorem dL_law_15 : decode cL_law 15 = .ok (.astore_n 2, 1) := by decide +kernel
theorem dL_law_16 : decode cL_law 16 = .ok (.iconst 1, 1) := by decide +kernel
theorem dL_law_17 : decode cL_law 17 = .ok (.newarray .long, 2) := by decide +kernel
theorem dL_law_19 : decode cL_law 19 = .ok (.astore_n 3, 1) := by decide +kernel
theorem dL_law_20 : decode cL_law 20 = .ok (.iconst 0, 1) := by decide +kernel
theorem dL_law_21 : decode cL_law 21 = .ok (.istore 4, 2) := by decide +kernel
theorem dL_law_23 : decode cL_law 23 = .ok (.iload 4, 2) := by decide +kernel
theorem dL_law_25 : decode cL_law 25 = .ok (.aload_n 0, 1) := by decide +kernel
theorem dL_law_26 : decode cL_law 26 = .ok (.arraylength, 1) := by decide +kernel
theorem dL_law_27 : decode cL_law 27 = .ok (.bipush 6, 2) := by decide +kernel
theorem dL_law_29 : decode cL_law 29 = .ok (.isub, 1) := by decide +kernel
theorem dL_law_30 : decode cL_law 30 = .ok (.if_icmp .gt 1641, 3) := by decide +kernel
theorem dL_law_33 : decode cL_law 33 = .ok (.aload_n 0, 1) := by decide +kernel
theorem dL_law_34 : decode cL_law 34 = .ok (.iload 4, 2) := by decide +kernel
theorem dL_law_36 : decode cL_law 36 = .ok (.iaload, 1) := by decide +kernel
theorem dL_law_37 : decode cL_law 37 = .ok (.bipush 63, 2) := by decide +kernel
theorem dL_law_39 : decode cL_law 39 = .ok (.iand, 1) := by decide +kernel
theorem dL_law_40 : decode cL_law 40 = .ok (.tableswitch 1625 0 41 #[184, 257, 282, 295, 308, 333, 370, 395, 432, 493, 554, 615, 676, 725, 762, 799, 836, 873, 922, 983, 1020, 1045, 1082, 1107, 1132, 1157, 1194, 1231, 1256, 1269, 1294, 1307, 1344, 1369, 1406, 1443, 1480, 1505, 1518, 1531, 1587, 1612], 184) := by decide +kernel
theorem dL_law_224 : decode cL_law 224 = .ok (.aload_n 1, 1) := by decide +kernel
theorem dL_law_225 : decode cL_law 225 = .ok (.aload_n 0, 1) := by decide +kernel
theorem dL_law_226 : decode cL_law 226 = .ok (.iload 4, 2) := by decide +kernel
theorem dL_law_228 : decode cL_law 228 = .ok (.iconst 1, 1) := by decide +kernel
theorem dL_law_229 : decode cL_law 229 = .ok (.iadd, 1) := by decide +kernel
theorem dL_law_230 : decode cL_law 230 = .ok (.iaload, 1) := by decide +kernel
theorem dL_law_231 : decode cL_law 231 = .ok (.aload_n 0, 1) := by decide +kernel
theorem dL_law_232 : decode cL_law 232 = .ok (.iload 4, 2) := by decide +kernel
theorem dL_law_234 : decode cL_law 234 = .ok (.iconst 2, 1) := by decide +kernel
theorem dL_law_235 : decode cL_law 235 = .ok (.iadd, 1) := by decide +kernel
theorem dL_law_236 : decode cL_law 236 = .ok (.iaload, 1) := by decide +kernel
theorem dL_law_237 : decode cL_law 237 = .ok (.aload_n 0, 1) := by decide +kernel
theorem dL_law_238 : decode cL_law 238 = .ok (.iload 4, 2) := by decide +kernel
theorem dL_law_240 : decode cL_law 240 = .ok (.iconst 3, 1) := by decide +kernel
theorem dL_law_241 : decode cL_law 241 = .ok (.iadd, 1) := by decide +kernel
theorem dL_law_242 : decode cL_law 242 = .ok (.iaload, 1) := by decide +kernel
theorem dL_law_243 : decode cL_law 243 = .ok (.aload_n 0, 1) := by decide +kernel
theorem dL_law_244 : decode cL_law 244 = .ok (.iload 4, 2) := by decide +kernel
theorem dL_law_246 : decode cL_law 246 = .ok (.iconst 4, 1) := by decide +kernel
theorem dL_law_247 : decode cL_law 247 = .ok (.iadd, 1) := by decide +kernel
theorem dL_law_248 : decode cL_law 248 = .ok (.iaload, 1) := by decide +kernel
theorem dL_law_249 : decode cL_law 249 = .ok (.aload_n 0, 1) := by decide +kernel
theorem dL_law_250 : decode cL_law 250 = .ok (.iload 4, 2) := by decide +kernel
theorem dL_law_252 : decode cL_law 252 = .ok (.iconst 5, 1) := by decide +kernel
theorem dL_law_253 : decode cL_law 253 = .ok (.iadd, 1) := by decide +kernel
theorem dL_law_254 : decode cL_law 254 = .ok (.iaload, 1) := by decide +kernel
theorem dL_law_255 : decode cL_law 255 = .ok (.invokevirtual 19, 3) := by decide +kernel
theorem dL_law_258 : decode cL_law 258 = .ok (.aload_n 2, 1) := by decide +kernel
theorem dL_law_259 : decode cL_law 259 = .ok (.aload_n 0, 1) := by decide +kernel
theorem dL_law_260 : decode cL_law 260 = .ok (.iload 4, 2) := by decide +kernel
theorem dL_law_262 : decode cL_law 262 = .ok (.iconst 1, 1) := by decide +kernel
theorem dL_law_263 : decode cL_law 263 = .ok (.iadd, 1) := by decide +kernel
theorem dL_law_264 : decode cL_law 264 = .ok (.iaload, 1) := by decide +kernel
theorem dL_law_265 : decode cL_law 265 = .ok (.aload_n 0, 1) := by decide +kernel
theorem dL_law_266 : decode cL_law 266 = .ok (.iload 4, 2) := by decide +kernel
theorem dL_law_268 : decode cL_law 268 = .ok (.iconst 2, 1) := by decide +kernel
theorem dL_law_269 : decode cL_law 269 = .ok (.iadd, 1) := by decide +kernel
theorem dL_law_270 : decode cL_law 270 = .ok (.iaload, 1) := by decide +kernel
theorem dL_law_271 : decode cL_law 271 = .ok (.aload_n 0, 1) := by decide +kernel
theorem dL_law_272 : decode cL_law 272 = .ok (.iload 4, 2) := by decide +kernel
theorem dL_law_274 : decode cL_law 274 = .ok (.iconst 3, 1) := by decide +kernel
theorem dL_law_275 : decode cL_law 275 = .ok (.iadd, 1) := by decide +kernel
theorem dL_law_276 : decode cL_law 276 = .ok (.iaload, 1) := by decide +kernel
theorem dL_law_277 : decode cL_law 277 = .ok (.aload_n 0, 1) := by decide +kernel
theorem dL_law_278 : decode cL_law 278 = .ok (.iload 4, 2) := by decide +kernel
theorem dL_law_280 : decode cL_law 280 = .ok (.iconst 4, 1) := by decide +kernel
theorem dL_law_281 : decode cL_law 281 = .ok (.iadd, 1) := by decide +kernel
theorem dL_law_282 : decode cL_law 282 = .ok (.iaload, 1) := by decide +kernel
theorem dL_law_283 : decode cL_law 283 = .ok (.aload_n 0, 1) := by decide +kernel
theorem dL_law_284 : decode cL_law 284 = .ok (.iload 4, 2) := by decide +kernel
theorem dL_law_286 : decode cL_law 286 = .ok (.iconst 5, 1) := by decide +kernel
theorem dL_law_287 : decode cL_law 287 = .ok (.iadd, 1) := by decide +kernel
theorem dL_law_288 : decode cL_law 288 = .ok (.iaload, 1) := by decide +kernel
theorem dL_law_289 : decode cL_law 289 = .ok (.invokevirtual 23, 3) := by decide +kernel
theorem dL_law_292 : decode cL_law 292 = .ok (.if_icmp .eq 1373, 3) := by decide +kernel
theorem dL_law_295 : decode cL_law 295 = .ok (.iconst 0, 1) := by decide +kernel
theorem dL_law_296 : decode cL_law 296 = .ok (.ireturn, 1) := by decide +kernel
theorem dL_law_297 : decode cL_law 297 = .ok (.aload_n 1, 1) := by decide +kernel
theorem dL_law_298 : decode cL_law 298 = .ok (.aload_n 0, 1) := by decide +kernel
theorem dL_law_299 : decode cL_law 299 = .ok (.iload 4, 2) := by decide +kernel
theorem dL_law_301 : decode cL_law 301 = .ok (.iconst 1, 1) := by decide +kernel
theorem dL_law_302 : decode cL_law 302 = .ok (.iadd, 1) := by decide +kernel
theorem dL_law_303 : decode cL_law 303 = .ok (.iaload, 1) := by decide +kernel
theorem dL_law_304 : decode cL_law 304 = .ok (.invokevirtual 24, 3) := by decide +kernel
theorem dL_law_307 : decode cL_law 307 = .ok (.aload_n 2, 1) := by decide +kernel
theorem dL_law_308 : decode cL_law 308 = .ok (.aload_n 0, 1) := by decide +kernel
theorem dL_law_309 : decode cL_law 309 = .ok (.iload 4, 2) := by decide +kernel
theorem dL_law_311 : decode cL_law 311 = .ok (.iconst 1, 1) := by decide +kernel
theorem dL_law_312 : decode cL_law 312 = .ok (.iadd, 1) := by decide +kernel
theorem dL_law_313 : decode cL_law 313 = .ok (.iaload, 1) := by decide +kernel
theorem dL_law_314 : decode cL_law 314 = .ok (.invokevirtual 27, 3) := by decide +kernel
theorem dL_law_317 : decode cL_law 317 = .ok (.if_icmp .eq 1348, 3) := by decide +kernel
theorem dL_law_320 : decode cL_law 320 = .ok (.iconst 0, 1) := by decide +kernel
theorem dL_law_321 : decode cL_law 321 = .ok (.ireturn, 1) := by decide +kernel
theorem dL_law_322 : decode cL_law 322 = .ok (.aload_n 1, 1) := by decide +kernel
theorem dL_law_323 : decode cL_law 323 = .ok (.invokevirtual 28, 3) := by decide +kernel
theorem dL_law_326 : decode cL_law 326 = .ok (.aload_n 2, 1) := by decide +kernel
theorem dL_law_327 : decode cL_law 327 = .ok (.invokevirtual 32, 3) := by decide +kernel
theorem dL_law_330 : decode cL_law 330 = .ok (.if_icmp .eq 1335, 3) := by decide +kernel
theorem dL_law_333 : decode cL_law 333 = .ok (.iconst 0, 1) := by decide +kernel
theorem dL_law_334 : decode cL_law 334 = .ok (.ireturn, 1) := by decide +kernel
theorem dL_law_335 : decode cL_law 335 = .ok (.aload_n 1, 1) := by decide +kernel
theorem dL_law_336 : decode cL_law 336 = .ok (.invokevirtual 33, 3) := by decide +kernel
theorem dL_law_339 : decode cL_law 339 = .ok (.aload_n 2, 1) := by decide +kernel
theorem dL_law_340 : decode cL_law 340 = .ok (.invokevirtual 36, 3) := by decide +kernel
theorem dL_law_343 : decode cL_law 343 = .ok (.if_icmp .eq 1322, 3) := by decide +kernel
theorem dL_law_346 : decode cL_law 346 = .ok (.iconst 0, 1) := by decide +kernel
theorem dL_law_347 : decode cL_law 347 = .ok (.ireturn, 1) := by decide +kernel
theorem dL_law_348 : decode cL_law 348 = .ok (.aload_n 1, 1) := by decide +kernel
theorem dL_law_349 : decode cL_law 349 = .ok (.aload_n 0, 1) := by decide +kernel
theorem dL_law_350 : decode cL_law 350 = .ok (.iload 4, 2) := by decide +kernel
theorem dL_law_352 : decode cL_law 352 = .ok (.iconst 1, 1) := by decide +kernel
theorem dL_law_353 : decode cL_law 353 = .ok (.iadd, 1) := by decide +kernel
theorem dL_law_354 : decode cL_law 354 = .ok (.iaload, 1) := by decide +kernel
theorem dL_law_355 : decode cL_law 355 = .ok (.invokevirtual 37, 3) := by decide +kernel
theorem dL_law_358 : decode cL_law 358 = .ok (.aload_n 2, 1) := by decide +kernel
theorem dL_law_359 : decode cL_law 359 = .ok (.aload_n 0, 1) := by decide +kernel
theorem dL_law_360 : decode cL_law 360 = .ok (.iload 4, 2) := by decide +kernel
theorem dL_law_362 : decode cL_law 362 = .ok (.iconst 1, 1) := by decide +kernel
theorem dL_law_363 : decode cL_law 363 = .ok (.iadd, 1) := by decide +kernel
theorem dL_law_364 : decode cL_law 364 = .ok (.iaload, 1) := by decide +kernel
theorem dL_law_365 : decode cL_law 365 = .ok (.invokevirtual 40, 3) := by decide +kernel
theorem dL_law_368 : decode cL_law 368 = .ok (.if_icmp .eq 1297, 3) := by decide +kernel
theorem dL_law_371 : decode cL_law 371 = .ok (.iconst 0, 1) := by decide +kernel
theorem dL_law_372 : decode cL_law 372 = .ok (.ireturn, 1) := by decide +kernel
theorem dL_law_373 : decode cL_law 373 = .ok (.aload_n 1, 1) := by decide +kernel
theorem dL_law_374 : decode cL_law 374 = .ok (.aload_n 0, 1) := by decide +kernel
theorem dL_law_375 : decode cL_law 375 = .ok (.iload 4, 2) := by decide +kernel
theorem dL_law_377 : decode cL_law 377 = .ok (.iconst 1, 1) := by decide +kernel
theorem dL_law_378 : decode cL_law 378 = .ok (.iadd, 1) := by decide +kernel
theorem dL_law_379 : decode cL_law 379 = .ok (.iaload, 1) := by decide +kernel
theorem dL_law_380 : decode cL_law 380 = .ok (.aload_n 0, 1) := by decide +kernel
theorem dL_law_381 : decode cL_law 381 = .ok (.iload 4, 2) := by decide +kernel
theorem dL_law_383 : decode cL_law 383 = .ok (.iconst 2, 1) := by decide +kernel
theorem dL_law_384 : decode cL_law 384 = .ok (.iadd, 1) := by decide +kernel
theorem dL_law_385 : decode cL_law 385 = .ok (.iaload, 1) := by decide +kernel
theorem dL_law_386 : decode cL_law 386 = .ok (.invokevirtual 41, 3) := by decide +kernel
theorem dL_law_389 : decode cL_law 389 = .ok (.aload_n 2, 1) := by decide +kernel
theorem dL_law_390 : decode cL_law 390 = .ok (.aload_n 0, 1) := by decide +kernel
theorem dL_law_391 : decode cL_law 391 = .ok (.iload 4, 2) := by decide +kernel
theorem dL_law_393 : decode cL_law 393 = .ok (.iconst 1, 1) := by decide +kernel
theorem dL_law_394 : decode cL_law 394 = .ok (.iadd, 1) := by decide +kernel
theorem dL_law_395 : decode cL_law 395 = .ok (.iaload, 1) := by decide +kernel
theorem dL_law_396 : decode cL_law 396 = .ok (.aload_n 0, 1) := by decide +kernel
theorem dL_law_397 : decode cL_law 397 = .ok (.iload 4, 2) := by decide +kernel
theorem dL_law_399 : decode cL_law 399 = .ok (.iconst 2, 1) := by decide +kernel
theorem dL_law_400 : decode cL_law 400 = .ok (.iadd, 1) := by decide +kernel
theorem dL_law_401 : decode cL_law 401 = .ok (.iaload, 1) := by decide +kernel
theorem dL_law_402 : decode cL_law 402 = .ok (.invokevirtual 45, 3) := by decide +kernel
theorem dL_law_405 : decode cL_law 405 = .ok (.if_icmp .eq 1260, 3) := by decide +kernel
theorem dL_law_408 : decode cL_law 408 = .ok (.iconst 0, 1) := by decide +kernel
theorem dL_law_409 : decode cL_law 409 = .ok (.ireturn, 1) := by decide +kernel
theorem dL_law_410 : decode cL_law 410 = .ok (.aload_n 1, 1) := by decide +kernel
theorem dL_law_411 : decode cL_law 411 = .ok (.aload_n 0, 1) := by decide +kernel
theorem dL_law_412 : decode cL_law 412 = .ok (.iload 4, 2) := by decide +kernel
theorem dL_law_414 : decode cL_law 414 = .ok (.iconst 1, 1) := by decide +kernel
theorem dL_law_415 : decode cL_law 415 = .ok (.iadd, 1) := by decide +kernel
theorem dL_law_416 : decode cL_law 416 = .ok (.iaload, 1) := by decide +kernel
theorem dL_law_417 : decode cL_law 417 = .ok (.invokevirtual 46, 3) := by decide +kernel
theorem dL_law_420 : decode cL_law 420 = .ok (.aload_n 2, 1) := by decide +kernel
theorem dL_law_421 : decode cL_law 421 = .ok (.aload_n 0, 1) := by decide +kernel
theorem dL_law_422 : decode cL_law 422 = .ok (.iload 4, 2) := by decide +kernel
theorem dL_law_424 : decode cL_law 424 = .ok (.iconst 1, 1) := by decide +kernel
theorem dL_law_425 : decode cL_law 425 = .ok (.iadd, 1) := by decide +kernel
theorem dL_law_426 : decode cL_law 426 = .ok (.iaload, 1) := by decide +kernel
theorem dL_law_427 : decode cL_law 427 = .ok (.invokevirtual 49, 3) := by decide +kernel
theorem dL_law_430 : decode cL_law 430 = .ok (.if_icmp .eq 1235, 3) := by decide +kernel
theorem dL_law_433 : decode cL_law 433 = .ok (.iconst 0, 1) := by decide +kernel
theorem dL_law_434 : decode cL_law 434 = .ok (.ireturn, 1) := by decide +kernel
theorem dL_law_435 : decode cL_law 435 = .ok (.aload_n 1, 1) := by decide +kernel
theorem dL_law_436 : decode cL_law 436 = .ok (.aload_n 0, 1) := by decide +kernel
theorem dL_law_437 : decode cL_law 437 = .ok (.iload 4, 2) := by decide +kernel
theorem dL_law_439 : decode cL_law 439 = .ok (.iconst 1, 1) := by decide +kernel
theorem dL_law_440 : decode cL_law 440 = .ok (.iadd, 1) := by decide +kernel
theorem dL_law_441 : decode cL_law 441 = .ok (.iaload, 1) := by decide +kernel
theorem dL_law_442 : decode cL_law 442 = .ok (.aload_n 0, 1) := by decide +kernel
theorem dL_law_443 : decode cL_law 443 = .ok (.iload 4, 2) := by decide +kernel
theorem dL_law_445 : decode cL_law 445 = .ok (.iconst 2, 1) := by decide +kernel
theorem dL_law_446 : decode cL_law 446 = .ok (.iadd, 1) := by decide +kernel
theorem dL_law_447 : decode cL_law 447 = .ok (.iaload, 1) := by decide +kernel
theorem dL_law_448 : decode cL_law 448 = .ok (.invokevirtual 50, 3) := by decide +kernel
theorem dL_law_451 : decode cL_law 451 = .ok (.aload_n 2, 1) := by decide +kernel
theorem dL_law_452 : decode cL_law 452 = .ok (.aload_n 0, 1) := by decide +kernel
theorem dL_law_453 : decode cL_law 453 = .ok (.iload 4, 2) := by decide +kernel
theorem dL_law_455 : decode cL_law 455 = .ok (.iconst 1, 1) := by decide +kernel
theorem dL_law_456 : decode cL_law 456 = .ok (.iadd, 1) := by decide +kernel
theorem dL_law_457 : decode cL_law 457 = .ok (.iaload, 1) := by decide +kernel
theorem dL_law_458 : decode cL_law 458 = .ok (.aload_n 0, 1) := by decide +kernel
theorem dL_law_459 : decode cL_law 459 = .ok (.iload 4, 2) := by decide +kernel
theorem dL_law_461 : decode cL_law 461 = .ok (.iconst 2, 1) := by decide +kernel
theorem dL_law_462 : decode cL_law 462 = .ok (.iadd, 1) := by decide +kernel
theorem dL_law_463 : decode cL_law 463 = .ok (.iaload, 1) := by decide +kernel
theorem dL_law_464 : decode cL_law 464 = .ok (.invokevirtual 53, 3) := by decide +kernel
theorem dL_law_467 : decode cL_law 467 = .ok (.if_icmp .eq 1198, 3) := by decide +kernel
theorem dL_law_470 : decode cL_law 470 = .ok (.iconst 0, 1) := by decide +kernel
theorem dL_law_471 : decode cL_law 471 = .ok (.ireturn, 1) := by decide +kernel
theorem dL_law_472 : decode cL_law 472 = .ok (.aload_n 1, 1) := by decide +kernel
theorem dL_law_473 : decode cL_law 473 = .ok (.aload_n 0, 1) := by decide +kernel
theorem dL_law_474 : decode cL_law 474 = .ok (.iload 4, 2) := by decide +kernel
theorem dL_law_476 : decode cL_law 476 = .ok (.iconst 1, 1) := by decide +kernel
theorem dL_law_477 : decode cL_law 477 = .ok (.iadd, 1) := by decide +kernel
theorem dL_law_478 : decode cL_law 478 = .ok (.iaload, 1) := by decide +kernel
theorem dL_law_479 : decode cL_law 479 = .ok (.aload_n 0, 1) := by decide +kernel
theorem dL_law_480 : decode cL_law 480 = .ok (.iload 4, 2) := by decide +kernel
theorem dL_law_482 : decode cL_law 482 = .ok (.iconst 2, 1) := by decide +kernel
theorem dL_law_483 : decode cL_law 483 = .ok (.iadd, 1) := by decide +kernel
theorem dL_law_484 : decode cL_law 484 = .ok (.iaload, 1) := by decide +kernel
theorem dL_law_485 : decode cL_law 485 = .ok (.aload_n 0, 1) := by decide +kernel
theorem dL_law_486 : decode cL_law 486 = .ok (.iload 4, 2) := by decide +kernel
theorem dL_law_488 : decode cL_law 488 = .ok (.iconst 3, 1) := by decide +kernel
theorem dL_law_489 : decode cL_law 489 = .ok (.iadd, 1) := by decide +kernel
theorem dL_law_490 : decode cL_law 490 = .ok (.iaload, 1) := by decide +kernel
theorem dL_law_491 : decode cL_law 491 = .ok (.aload_n 0, 1) := by decide +kernel
theorem dL_law_492 : decode cL_law 492 = .ok (.iload 4, 2) := by decide +kernel
theorem dL_law_494 : decode cL_law 494 = .ok (.iconst 4, 1) := by decide +kernel
theorem dL_law_495 : decode cL_law 495 = .ok (.iadd, 1) := by decide +kernel
theorem dL_law_496 : decode cL_law 496 = .ok (.iaload, 1) := by decide +kernel
theorem dL_law_497 : decode cL_law 497 = .ok (.invokevirtual 54, 3) := by decide +kernel
theorem dL_law_500 : decode cL_law 500 = .ok (.aload_n 2, 1) := by decide +kernel
theorem dL_law_501 : decode cL_law 501 = .ok (.aload_n 0, 1) := by decide +kernel
theorem dL_law_502 : decode cL_law 502 = .ok (.iload 4, 2) := by decide +kernel
theorem dL_law_504 : decode cL_law 504 = .ok (.iconst 1, 1) := by decide +kernel
theorem dL_law_505 : decode cL_law 505 = .ok (.iadd, 1) := by decide +kernel
theorem dL_law_506 : decode cL_law 506 = .ok (.iaload, 1) := by decide +kernel
theorem dL_law_507 : decode cL_law 507 = .ok (.aload_n 0, 1) := by decide +kernel
theorem dL_law_508 : decode cL_law 508 = .ok (.iload 4, 2) := by decide +kernel
theorem dL_law_510 : decode cL_law 510 = .ok (.iconst 2, 1) := by decide +kernel
theorem dL_law_511 : decode cL_law 511 = .ok (.iadd, 1) := by decide +kernel
theorem dL_law_512 : decode cL_law 512 = .ok (.iaload, 1) := by decide +kernel
theorem dL_law_513 : decode cL_law 513 = .ok (.aload_n 0, 1) := by decide +kernel
theorem dL_law_514 : decode cL_law 514 = .ok (.iload 4, 2) := by decide +kernel
theorem dL_law_516 : decode cL_law 516 = .ok (.iconst 3, 1) := by decide +kernel
theorem dL_law_517 : decode cL_law 517 = .ok (.iadd, 1) := by decide +kernel
theorem dL_law_518 : decode cL_law 518 = .ok (.iaload, 1) := by decide +kernel
theorem dL_law_519 : decode cL_law 519 = .ok (.aload_n 0, 1) := by decide +kernel
theorem dL_law_520 : decode cL_law 520 = .ok (.iload 4, 2) := by decide +kernel
theorem dL_law_522 : decode cL_law 522 = .ok (.iconst 4, 1) := by decide +kernel
theorem dL_law_523 : decode cL_law 523 = .ok (.iadd, 1) := by decide +kernel
theorem dL_law_524 : decode cL_law 524 = .ok (.iaload, 1) := by decide +kernel
theorem dL_law_525 : decode cL_law 525 = .ok (.invokevirtual 58, 3) := by decide +kernel
theorem dL_law_528 : decode cL_law 528 = .ok (.if_icmp .eq 1137, 3) := by decide +kernel
theorem dL_law_531 : decode cL_law 531 = .ok (.iconst 0, 1) := by decide +kernel
theorem dL_law_532 : decode cL_law 532 = .ok (.ireturn, 1) := by decide +kernel
theorem dL_law_533 : decode cL_law 533 = .ok (.aload_n 1, 1) := by decide +kernel
theorem dL_law_534 : decode cL_law 534 = .ok (.aload_n 0, 1) := by decide +kernel
theorem dL_law_535 : decode cL_law 535 = .ok (.iload 4, 2) := by decide +kernel
theorem dL_law_537 : decode cL_law 537 = .ok (.iconst 1, 1) := by decide +kernel
theorem dL_law_538 : decode cL_law 538 = .ok (.iadd, 1) := by decide +kernel
theorem dL_law_539 : decode cL_law 539 = .ok (.iaload, 1) := by decide +kernel
theorem dL_law_540 : decode cL_law 540 = .ok (.aload_n 0, 1) := by decide +kernel
theorem dL_law_541 : decode cL_law 541 = .ok (.iload 4, 2) := by decide +kernel
theorem dL_law_543 : decode cL_law 543 = .ok (.iconst 2, 1) := by decide +kernel
theorem dL_law_544 : decode cL_law 544 = .ok (.iadd, 1) := by decide +kernel
theorem dL_law_545 : decode cL_law 545 = .ok (.iaload, 1) := by decide +kernel
theorem dL_law_546 : decode cL_law 546 = .ok (.aload_n 0, 1) := by decide +kernel
theorem dL_law_547 : decode cL_law 547 = .ok (.iload 4, 2) := by decide +kernel
theorem dL_law_549 : decode cL_law 549 = .ok (.iconst 3, 1) := by decide +kernel
theorem dL_law_550 : decode cL_law 550 = .ok (.iadd, 1) := by decide +kernel
theorem dL_law_551 : decode cL_law 551 = .ok (.iaload, 1) := by decide +kernel
theorem dL_law_552 : decode cL_law 552 = .ok (.aload_n 0, 1) := by decide +kernel
theorem dL_law_553 : decode cL_law 553 = .ok (.iload 4, 2) := by decide +kernel
theorem dL_law_555 : decode cL_law 555 = .ok (.iconst 4, 1) := by decide +kernel
theorem dL_law_556 : decode cL_law 556 = .ok (.iadd, 1) := by decide +kernel
theorem dL_law_557 : decode cL_law 557 = .ok (.iaload, 1) := by decide +kernel
theorem dL_law_558 : decode cL_law 558 = .ok (.invokevirtual 59, 3) := by decide +kernel
theorem dL_law_561 : decode cL_law 561 = .ok (.aload_n 2, 1) := by decide +kernel
theorem dL_law_562 : decode cL_law 562 = .ok (.aload_n 0, 1) := by decide +kernel
theorem dL_law_563 : decode cL_law 563 = .ok (.iload 4, 2) := by decide +kernel
theorem dL_law_565 : decode cL_law 565 = .ok (.iconst 1, 1) := by decide +kernel
theorem dL_law_566 : decode cL_law 566 = .ok (.iadd, 1) := by decide +kernel
theorem dL_law_567 : decode cL_law 567 = .ok (.iaload, 1) := by decide +kernel
theorem dL_law_568 : decode cL_law 568 = .ok (.aload_n 0, 1) := by decide +kernel
theorem dL_law_569 : decode cL_law 569 = .ok (.iload 4, 2) := by decide +kernel
theorem dL_law_571 : decode cL_law 571 = .ok (.iconst 2, 1) := by decide +kernel
theorem dL_law_572 : decode cL_law 572 = .ok (.iadd, 1) := by decide +kernel
theorem dL_law_573 : decode cL_law 573 = .ok (.iaload, 1) := by decide +kernel
theorem dL_law_574 : decode cL_law 574 = .ok (.aload_n 0, 1) := by decide +kernel
theorem dL_law_575 : decode cL_law 575 = .ok (.iload 4, 2) := by decide +kernel
theorem dL_law_577 : decode cL_law 577 = .ok (.iconst 3, 1) := by decide +kernel
theorem dL_law_578 : decode cL_law 578 = .ok (.iadd, 1) := by decide +kernel
theorem dL_law_579 : decode cL_law 579 = .ok (.iaload, 1) := by decide +kernel
theorem dL_law_580 : decode cL_law 580 = .ok (.aload_n 0, 1) := by decide +kernel
theorem dL_law_581 : decode cL_law 581 = .ok (.iload 4, 2) := by decide +kernel
theorem dL_law_583 : decode cL_law 583 = .ok (.iconst 4, 1) := by decide +kernel
theorem dL_law_584 : decode cL_law 584 = .ok (.iadd, 1) := by decide +kernel
theorem dL_law_585 : decode cL_law 585 = .ok (.iaload, 1) := by decide +kernel
theorem dL_law_586 : decode cL_law 586 = .ok (.invokevirtual 62, 3) := by decide +kernel
theorem dL_law_589 : decode cL_law 589 = .ok (.if_icmp .eq 1076, 3) := by decide +kernel
theorem dL_law_592 : decode cL_law 592 = .ok (.iconst 0, 1) := by decide +kernel
theorem dL_law_593 : decode cL_law 593 = .ok (.ireturn, 1) := by decide +kernel
theorem dL_law_594 : decode cL_law 594 = .ok (.aload_n 1, 1) := by decide +kernel
theorem dL_law_595 : decode cL_law 595 = .ok (.aload_n 0, 1) := by decide +kernel
theorem dL_law_596 : decode cL_law 596 = .ok (.iload 4, 2) := by decide +kernel
theorem dL_law_598 : decode cL_law 598 = .ok (.iconst 1, 1) := by decide +kernel
theorem dL_law_599 : decode cL_law 599 = .ok (.iadd, 1) := by decide +kernel
theorem dL_law_600 : decode cL_law 600 = .ok (.iaload, 1) := by decide +kernel
theorem dL_law_601 : decode cL_law 601 = .ok (.aload_n 0, 1) := by decide +kernel
theorem dL_law_602 : decode cL_law 602 = .ok (.iload 4, 2) := by decide +kernel
theorem dL_law_604 : decode cL_law 604 = .ok (.iconst 2, 1) := by decide +kernel
theorem dL_law_605 : decode cL_law 605 = .ok (.iadd, 1) := by decide +kernel
theorem dL_law_606 : decode cL_law 606 = .ok (.iaload, 1) := by decide +kernel
theorem dL_law_607 : decode cL_law 607 = .ok (.aload_n 0, 1) := by decide +kernel
theorem dL_law_608 : decode cL_law 608 = .ok (.iload 4, 2) := by decide +kernel
theorem dL_law_610 : decode cL_law 610 = .ok (.iconst 3, 1) := by decide +kernel
theorem dL_law_611 : decode cL_law 611 = .ok (.iadd, 1) := by decide +kernel
theorem dL_law_612 : decode cL_law 612 = .ok (.iaload, 1) := by decide +kernel
theorem dL_law_613 : decode cL_law 613 = .ok (.aload_n 0, 1) := by decide +kernel
theorem dL_law_614 : decode cL_law 614 = .ok (.iload 4, 2) := by decide +kernel
theorem dL_law_616 : decode cL_law 616 = .ok (.iconst 4, 1) := by decide +kernel
theorem dL_law_617 : decode cL_law 617 = .ok (.iadd, 1) := by decide +kernel
theorem dL_law_618 : decode cL_law 618 = .ok (.iaload, 1) := by decide +kernel
theorem dL_law_619 : decode cL_law 619 = .ok (.invokevirtual 63, 3) := by decide +kernel
theorem dL_law_622 : decode cL_law 622 = .ok (.aload_n 2, 1) := by decide +kernel
theorem dL_law_623 : decode cL_law 623 = .ok (.aload_n 0, 1) := by decide +kernel
theorem dL_law_624 : decode cL_law 624 = .ok (.iload 4, 2) := by decide +kernel
theorem dL_law_626 : decode cL_law 626 = .ok (.iconst 1, 1) := by decide +kernel
theorem dL_law_627 : decode cL_law 627 = .ok (.iadd, 1) := by decide +kernel
theorem dL_law_628 : decode cL_law 628 = .ok (.iaload, 1) := by decide +kernel
theorem dL_law_629 : decode cL_law 629 = .ok (.aload_n 0, 1) := by decide +kernel
theorem dL_law_630 : decode cL_law 630 = .ok (.iload 4, 2) := by decide +kernel
theorem dL_law_632 : decode cL_law 632 = .ok (.iconst 2, 1) := by decide +kernel
theorem dL_law_633 : decode cL_law 633 = .ok (.iadd, 1) := by decide +kernel
theorem dL_law_634 : decode cL_law 634 = .ok (.iaload, 1) := by decide +kernel
theorem dL_law_635 : decode cL_law 635 = .ok (.aload_n 0, 1) := by decide +kernel
theorem dL_law_636 : decode cL_law 636 = .ok (.iload 4, 2) := by decide +kernel
theorem dL_law_638 : decode cL_law 638 = .ok (.iconst 3, 1) := by decide +kernel
theorem dL_law_639 : decode cL_law 639 = .ok (.iadd, 1) := by decide +kernel
theorem dL_law_640 : decode cL_law 640 = .ok (.iaload, 1) := by decide +kernel
theorem dL_law_641 : decode cL_law 641 = .ok (.aload_n 0, 1) := by decide +kernel
theorem dL_law_642 : decode cL_law 642 = .ok (.iload 4, 2) := by decide +kernel
theorem dL_law_644 : decode cL_law 644 = .ok (.iconst 4, 1) := by decide +kernel
theorem dL_law_645 : decode cL_law 645 = .ok (.iadd, 1) := by decide +kernel
theorem dL_law_646 : decode cL_law 646 = .ok (.iaload, 1) := by decide +kernel
theorem dL_law_647 : decode cL_law 647 = .ok (.invokevirtual 66, 3) := by decide +kernel
theorem dL_law_650 : decode cL_law 650 = .ok (.if_icmp .eq 1015, 3) := by decide +kernel
theorem dL_law_653 : decode cL_law 653 = .ok (.iconst 0, 1) := by decide +kernel
theorem dL_law_654 : decode cL_law 654 = .ok (.ireturn, 1) := by decide +kernel
theorem dL_law_655 : decode cL_law 655 = .ok (.aload_n 1, 1) := by decide +kernel
theorem dL_law_656 : decode cL_law 656 = .ok (.aload_n 0, 1) := by decide +kernel
theorem dL_law_657 : decode cL_law 657 = .ok (.iload 4, 2) := by decide +kernel
theorem dL_law_659 : decode cL_law 659 = .ok (.iconst 1, 1) := by decide +kernel
theorem dL_law_660 : decode cL_law 660 = .ok (.iadd, 1) := by decide +kernel
theorem dL_law_661 : decode cL_law 661 = .ok (.iaload, 1) := by decide +kernel
theorem dL_law_662 : decode cL_law 662 = .ok (.aload_n 0, 1) := by decide +kernel
theorem dL_law_663 : decode cL_law 663 = .ok (.iload 4, 2) := by decide +kernel
theorem dL_law_665 : decode cL_law 665 = .ok (.iconst 2, 1) := by decide +kernel
theorem dL_law_666 : decode cL_law 666 = .ok (.iadd, 1) := by decide +kernel
theorem dL_law_667 : decode cL_law 667 = .ok (.iaload, 1) := by decide +kernel
theorem dL_law_668 : decode cL_law 668 = .ok (.aload_n 0, 1) := by decide +kernel
theorem dL_law_669 : decode cL_law 669 = .ok (.iload 4, 2) := by decide +kernel
theorem dL_law_671 : decode cL_law 671 = .ok (.iconst 3, 1) := by decide +kernel
theorem dL_law_672 : decode cL_law 672 = .ok (.iadd, 1) := by decide +kernel
theorem dL_law_673 : decode cL_law 673 = .ok (.iaload, 1) := by decide +kernel
theorem dL_law_674 : decode cL_law 674 = .ok (.aload_n 0, 1) := by decide +kernel
theorem dL_law_675 : decode cL_law 675 = .ok (.iload 4, 2) := by decide +kernel
theorem dL_law_677 : decode cL_law 677 = .ok (.iconst 4, 1) := by decide +kernel
theorem dL_law_678 : decode cL_law 678 = .ok (.iadd, 1) := by decide +kernel
theorem dL_law_679 : decode cL_law 679 = .ok (.iaload, 1) := by decide +kernel
theorem dL_law_680 : decode cL_law 680 = .ok (.invokevirtual 67, 3) := by decide +kernel
theorem dL_law_683 : decode cL_law 683 = .ok (.aload_n 2, 1) := by decide +kernel
theorem dL_law_684 : decode cL_law 684 = .ok (.aload_n 0, 1) := by decide +kernel
theorem dL_law_685 : decode cL_law 685 = .ok (.iload 4, 2) := by decide +kernel
theorem dL_law_687 : decode cL_law 687 = .ok (.iconst 1, 1) := by decide +kernel
theorem dL_law_688 : decode cL_law 688 = .ok (.iadd, 1) := by decide +kernel
theorem dL_law_689 : decode cL_law 689 = .ok (.iaload, 1) := by decide +kernel
theorem dL_law_690 : decode cL_law 690 = .ok (.aload_n 0, 1) := by decide +kernel
theorem dL_law_691 : decode cL_law 691 = .ok (.iload 4, 2) := by decide +kernel
theorem dL_law_693 : decode cL_law 693 = .ok (.iconst 2, 1) := by decide +kernel
theorem dL_law_694 : decode cL_law 694 = .ok (.iadd, 1) := by decide +kernel
theorem dL_law_695 : decode cL_law 695 = .ok (.iaload, 1) := by decide +kernel
theorem dL_law_696 : decode cL_law 696 = .ok (.aload_n 0, 1) := by decide +kernel
theorem dL_law_697 : decode cL_law 697 = .ok (.iload 4, 2) := by decide +kernel
theorem dL_law_699 : decode cL_law 699 = .ok (.iconst 3, 1) := by decide +kernel
theorem dL_law_700 : decode cL_law 700 = .ok (.iadd, 1) := by decide +kernel
theorem dL_law_701 : decode cL_law 701 = .ok (.iaload, 1) := by decide +kernel
theorem dL_law_702 : decode cL_law 702 = .ok (.aload_n 0, 1) := by decide +kernel
theorem dL_law_703 : decode cL_law 703 = .ok (.iload 4, 2) := by decide +kernel
theorem dL_law_705 : decode cL_law 705 = .ok (.iconst 4, 1) := by decide +kernel
theorem dL_law_706 : decode cL_law 706 = .ok (.iadd, 1) := by decide +kernel
theorem dL_law_707 : decode cL_law 707 = .ok (.iaload, 1) := by decide +kernel
theorem dL_law_708 : decode cL_law 708 = .ok (.invokevirtual 70, 3) := by decide +kernel
theorem dL_law_711 : decode cL_law 711 = .ok (.if_icmp .eq 954, 3) := by decide +kernel
theorem dL_law_714 : decode cL_law 714 = .ok (.iconst 0, 1) := by decide +kernel
theorem dL_law_715 : decode cL_law 715 = .ok (.ireturn, 1) := by decide +kernel
theorem dL_law_716 : decode cL_law 716 = .ok (.aload_n 1, 1) := by decide +kernel
theorem dL_law_717 : decode cL_law 717 = .ok (.aload_n 0, 1) := by decide +kernel
theorem dL_law_718 : decode cL_law 718 = .ok (.iload 4, 2) := by decide +kernel
theorem dL_law_720 : decode cL_law 720 = .ok (.iconst 1, 1) := by decide +kernel
theorem dL_law_721 : decode cL_law 721 = .ok (.iadd, 1) := by decide +kernel
theorem dL_law_722 : decode cL_law 722 = .ok (.iaload, 1) := by decide +kernel
theorem dL_law_723 : decode cL_law 723 = .ok (.aload_n 0, 1) := by decide +kernel
theorem dL_law_724 : decode cL_law 724 = .ok (.iload 4, 2) := by decide +kernel
theorem dL_law_726 : decode cL_law 726 = .ok (.iconst 2, 1) := by decide +kernel
theorem dL_law_727 : decode cL_law 727 = .ok (.iadd, 1) := by decide +kernel
theorem dL_law_728 : decode cL_law 728 = .ok (.iaload, 1) := by decide +kernel
theorem dL_law_729 : decode cL_law 729 = .ok (.aload_n 0, 1) := by decide +kernel
theorem dL_law_730 : decode cL_law 730 = .ok (.iload 4, 2) := by decide +kernel
theorem dL_law_732 : decode cL_law 732 = .ok (.iconst 3, 1) := by decide +kernel
theorem dL_law_733 : decode cL_law 733 = .ok (.iadd, 1) := by decide +kernel
theorem dL_law_734 : decode cL_law 734 = .ok (.iaload, 1) := by decide +kernel
theorem dL_law_735 : decode cL_law 735 = .ok (.invokevirtual 71, 3) := by decide +kernel
theorem dL_law_738 : decode cL_law 738 = .ok (.aload_n 2, 1) := by decide +kernel
theorem dL_law_739 : decode cL_law 739 = .ok (.aload_n 0, 1) := by decide +kernel
theorem dL_law_740 : decode cL_law 740 = .ok (.iload 4, 2) := by decide +kernel
theorem dL_law_742 : decode cL_law 742 = .ok (.iconst 1, 1) := by decide +kernel
theorem dL_law_743 : decode cL_law 743 = .ok (.iadd, 1) := by decide +kernel
theorem dL_law_744 : decode cL_law 744 = .ok (.iaload, 1) := by decide +kernel
theorem dL_law_745 : decode cL_law 745 = .ok (.aload_n 0, 1) := by decide +kernel
theorem dL_law_746 : decode cL_law 746 = .ok (.iload 4, 2) := by decide +kernel
theorem dL_law_748 : decode cL_law 748 = .ok (.iconst 2, 1) := by decide +kernel
theorem dL_law_749 : decode cL_law 749 = .ok (.iadd, 1) := by decide +kernel
theorem dL_law_750 : decode cL_law 750 = .ok (.iaload, 1) := by decide +kernel
theorem dL_law_751 : decode cL_law 751 = .ok (.aload_n 0, 1) := by decide +kernel
theorem dL_law_752 : decode cL_law 752 = .ok (.iload 4, 2) := by decide +kernel
theorem dL_law_754 : decode cL_law 754 = .ok (.iconst 3, 1) := by decide +kernel
theorem dL_law_755 : decode cL_law 755 = .ok (.iadd, 1) := by decide +kernel
theorem dL_law_756 : decode cL_law 756 = .ok (.iaload, 1) := by decide +kernel
theorem dL_law_757 : decode cL_law 757 = .ok (.invokevirtual 75, 3) := by decide +kernel
theorem dL_law_760 : decode cL_law 760 = .ok (.if_icmp .eq 905, 3) := by decide +kernel
theorem dL_law_763 : decode cL_law 763 = .ok (.iconst 0, 1) := by decide +kernel
theorem dL_law_764 : decode cL_law 764 = .ok (.ireturn, 1) := by decide +kernel
theorem dL_law_765 : decode cL_law 765 = .ok (.aload_n 1, 1) := by decide +kernel
theorem dL_law_766 : decode cL_law 766 = .ok (.aload_n 0, 1) := by decide +kernel
theorem dL_law_767 : decode cL_law 767 = .ok (.iload 4, 2) := by decide +kernel
theorem dL_law_769 : decode cL_law 769 = .ok (.iconst 1, 1) := by decide +kernel
theorem dL_law_770 : decode cL_law 770 = .ok (.iadd, 1) := by decide +kernel
theorem dL_law_771 : decode cL_law 771 = .ok (.iaload, 1) := by decide +kernel
theorem dL_law_772 : decode cL_law 772 = .ok (.aload_n 0, 1) := by decide +kernel
theorem dL_law_773 : decode cL_law 773 = .ok (.iload 4, 2) := by decide +kernel
theorem dL_law_775 : decode cL_law 775 = .ok (.iconst 2, 1) := by decide +kernel
theorem dL_law_776 : decode cL_law 776 = .ok (.iadd, 1) := by decide +kernel
theorem dL_law_777 : decode cL_law 777 = .ok (.iaload, 1) := by decide +kernel
theorem dL_law_778 : decode cL_law 778 = .ok (.invokevirtual 76, 3) := by decide +kernel
theorem dL_law_781 : decode cL_law 781 = .ok (.aload_n 2, 1) := by decide +kernel
theorem dL_law_782 : decode cL_law 782 = .ok (.aload_n 0, 1) := by decide +kernel
theorem dL_law_783 : decode cL_law 783 = .ok (.iload 4, 2) := by decide +kernel
theorem dL_law_785 : decode cL_law 785 = .ok (.iconst 1, 1) := by decide +kernel
theorem dL_law_786 : decode cL_law 786 = .ok (.iadd, 1) := by decide +kernel
theorem dL_law_787 : decode cL_law 787 = .ok (.iaload, 1) := by decide +kernel
theorem dL_law_788 : decode cL_law 788 = .ok (.aload_n 0, 1) := by decide +kernel
theorem dL_law_789 : decode cL_law 789 = .ok (.iload 4, 2) := by decide +kernel
theorem dL_law_791 : decode cL_law 791 = .ok (.iconst 2, 1) := by decide +kernel
theorem dL_law_792 : decode cL_law 792 = .ok (.iadd, 1) := by decide +kernel
theorem dL_law_793 : decode cL_law 793 = .ok (.iaload, 1) := by decide +kernel
theorem dL_law_794 : decode cL_law 794 = .ok (.invokevirtual 79, 3) := by decide +kernel
theorem dL_law_797 : decode cL_law 797 = .ok (.if_icmp .eq 868, 3) := by decide +kernel
theorem dL_law_800 : decode cL_law 800 = .ok (.iconst 0, 1) := by decide +kernel
theorem dL_law_801 : decode cL_law 801 = .ok (.ireturn, 1) := by decide +kernel
theorem dL_law_802 : decode cL_law 802 = .ok (.aload_n 1, 1) := by decide +kernel
theorem dL_law_803 : decode cL_law 803 = .ok (.aload_n 0, 1) := by decide +kernel
theorem dL_law_804 : decode cL_law 804 = .ok (.iload 4, 2) := by decide +kernel
theorem dL_law_806 : decode cL_law 806 = .ok (.iconst 1, 1) := by decide +kernel
theorem dL_law_807 : decode cL_law 807 = .ok (.iadd, 1) := by decide +kernel
theorem dL_law_808 : decode cL_law 808 = .ok (.iaload, 1) := by decide +kernel
theorem dL_law_809 : decode cL_law 809 = .ok (.aload_n 0, 1) := by decide +kernel
theorem dL_law_810 : decode cL_law 810 = .ok (.iload 4, 2) := by decide +kernel
theorem dL_law_812 : decode cL_law 812 = .ok (.iconst 2, 1) := by decide +kernel
theorem dL_law_813 : decode cL_law 813 = .ok (.iadd, 1) := by decide +kernel
theorem dL_law_814 : decode cL_law 814 = .ok (.iaload, 1) := by decide +kernel
theorem dL_law_815 : decode cL_law 815 = .ok (.invokevirtual 80, 3) := by decide +kernel
theorem dL_law_818 : decode cL_law 818 = .ok (.aload_n 2, 1) := by decide +kernel
theorem dL_law_819 : decode cL_law 819 = .ok (.aload_n 0, 1) := by decide +kernel
theorem dL_law_820 : decode cL_law 820 = .ok (.iload 4, 2) := by decide +kernel
theorem dL_law_822 : decode cL_law 822 = .ok (.iconst 1, 1) := by decide +kernel
theorem dL_law_823 : decode cL_law 823 = .ok (.iadd, 1) := by decide +kernel
theorem dL_law_824 : decode cL_law 824 = .ok (.iaload, 1) := by decide +kernel
theorem dL_law_825 : decode cL_law 825 = .ok (.aload_n 0, 1) := by decide +kernel
theorem dL_law_826 : decode cL_law 826 = .ok (.iload 4, 2) := by decide +kernel
theorem dL_law_828 : decode cL_law 828 = .ok (.iconst 2, 1) := by decide +kernel
theorem dL_law_829 : decode cL_law 829 = .ok (.iadd, 1) := by decide +kernel
theorem dL_law_830 : decode cL_law 830 = .ok (.iaload, 1) := by decide +kernel
theorem dL_law_831 : decode cL_law 831 = .ok (.invokevirtual 83, 3) := by decide +kernel
theorem dL_law_834 : decode cL_law 834 = .ok (.if_icmp .eq 831, 3) := by decide +kernel
theorem dL_law_837 : decode cL_law 837 = .ok (.iconst 0, 1) := by decide +kernel
theorem dL_law_838 : decode cL_law 838 = .ok (.ireturn, 1) := by decide +kernel
theorem dL_law_839 : decode cL_law 839 = .ok (.aload_n 1, 1) := by decide +kernel
theorem dL_law_840 : decode cL_law 840 = .ok (.aload_n 0, 1) := by decide +kernel
theorem dL_law_841 : decode cL_law 841 = .ok (.iload 4, 2) := by decide +kernel
theorem dL_law_843 : decode cL_law 843 = .ok (.iconst 1, 1) := by decide +kernel
theorem dL_law_844 : decode cL_law 844 = .ok (.iadd, 1) := by decide +kernel
theorem dL_law_845 : decode cL_law 845 = .ok (.iaload, 1) := by decide +kernel
theorem dL_law_846 : decode cL_law 846 = .ok (.aload_n 0, 1) := by decide +kernel
theorem dL_law_847 : decode cL_law 847 = .ok (.iload 4, 2) := by decide +kernel
theorem dL_law_849 : decode cL_law 849 = .ok (.iconst 2, 1) := by decide +kernel
theorem dL_law_850 : decode cL_law 850 = .ok (.iadd, 1) := by decide +kernel
theorem dL_law_851 : decode cL_law 851 = .ok (.iaload, 1) := by decide +kernel
theorem dL_law_852 : decode cL_law 852 = .ok (.invokevirtual 84, 3) := by decide +kernel
theorem dL_law_855 : decode cL_law 855 = .ok (.aload_n 2, 1) := by decide +kernel
theorem dL_law_856 : decode cL_law 856 = .ok (.aload_n 0, 1) := by decide +kernel
theorem dL_law_857 : decode cL_law 857 = .ok (.iload 4, 2) := by decide +kernel
theorem dL_law_859 : decode cL_law 859 = .ok (.iconst 1, 1) := by decide +kernel
theorem dL_law_860 : decode cL_law 860 = .ok (.iadd, 1) := by decide +kernel
theorem dL_law_861 : decode cL_law 861 = .ok (.iaload, 1) := by decide +kernel
theorem dL_law_862 : decode cL_law 862 = .ok (.aload_n 0, 1) := by decide +kernel
theorem dL_law_863 : decode cL_law 863 = .ok (.iload 4, 2) := by decide +kernel
theorem dL_law_865 : decode cL_law 865 = .ok (.iconst 2, 1) := by decide +kernel
theorem dL_law_866 : decode cL_law 866 = .ok (.iadd, 1) := by decide +kernel
theorem dL_law_867 : decode cL_law 867 = .ok (.iaload, 1) := by decide +kernel
theorem dL_law_868 : decode cL_law 868 = .ok (.invokevirtual 87, 3) := by decide +kernel
theorem dL_law_871 : decode cL_law 871 = .ok (.if_icmp .eq 794, 3) := by decide +kernel
theorem dL_law_874 : decode cL_law 874 = .ok (.iconst 0, 1) := by decide +kernel
theorem dL_law_875 : decode cL_law 875 = .ok (.ireturn, 1) := by decide +kernel
theorem dL_law_876 : decode cL_law 876 = .ok (.aload_n 1, 1) := by decide +kernel
theorem dL_law_877 : decode cL_law 877 = .ok (.aload_n 0, 1) := by decide +kernel
theorem dL_law_878 : decode cL_law 878 = .ok (.iload 4, 2) := by decide +kernel
theorem dL_law_880 : decode cL_law 880 = .ok (.iconst 1, 1) := by decide +kernel
theorem dL_law_881 : decode cL_law 881 = .ok (.iadd, 1) := by decide +kernel
theorem dL_law_882 : decode cL_law 882 = .ok (.iaload, 1) := by decide +kernel
theorem dL_law_883 : decode cL_law 883 = .ok (.aload_n 0, 1) := by decide +kernel
theorem dL_law_884 : decode cL_law 884 = .ok (.iload 4, 2) := by decide +kernel
theorem dL_law_886 : decode cL_law 886 = .ok (.iconst 2, 1) := by decide +kernel
theorem dL_law_887 : decode cL_law 887 = .ok (.iadd, 1) := by decide +kernel
theorem dL_law_888 : decode cL_law 888 = .ok (.iaload, 1) := by decide +kernel
theorem dL_law_889 : decode cL_law 889 = .ok (.invokevirtual 88, 3) := by decide +kernel
theorem dL_law_892 : decode cL_law 892 = .ok (.aload_n 2, 1) := by decide +kernel
theorem dL_law_893 : decode cL_law 893 = .ok (.aload_n 0, 1) := by decide +kernel
theorem dL_law_894 : decode cL_law 894 = .ok (.iload 4, 2) := by decide +kernel
theorem dL_law_896 : decode cL_law 896 = .ok (.iconst 1, 1) := by decide +kernel
theorem dL_law_897 : decode cL_law 897 = .ok (.iadd, 1) := by decide +kernel
theorem dL_law_898 : decode cL_law 898 = .ok (.iaload, 1) := by decide +kernel
theorem dL_law_899 : decode cL_law 899 = .ok (.aload_n 0, 1) := by decide +kernel
theorem dL_law_900 : decode cL_law 900 = .ok (.iload 4, 2) := by decide +kernel
theorem dL_law_902 : decode cL_law 902 = .ok (.iconst 2, 1) := by decide +kernel
theorem dL_law_903 : decode cL_law 903 = .ok (.iadd, 1) := by decide +kernel
theorem dL_law_904 : decode cL_law 904 = .ok (.iaload, 1) := by decide +kernel
theorem dL_law_905 : decode cL_law 905 = .ok (.invokevirtual 91, 3) := by decide +kernel
theorem dL_law_908 : decode cL_law 908 = .ok (.if_icmp .eq 757, 3) := by decide +kernel
theorem dL_law_911 : decode cL_law 911 = .ok (.iconst 0, 1) := by decide +kernel
theorem dL_law_912 : decode cL_law 912 = .ok (.ireturn, 1) := by decide +kernel
theorem dL_law_913 : decode cL_law 913 = .ok (.aload_n 1, 1) := by decide +kernel
theorem dL_law_914 : decode cL_law 914 = .ok (.aload_n 0, 1) := by decide +kernel
theorem dL_law_915 : decode cL_law 915 = .ok (.iload 4, 2) := by decide +kernel
theorem dL_law_917 : decode cL_law 917 = .ok (.iconst 1, 1) := by decide +kernel
theorem dL_law_918 : decode cL_law 918 = .ok (.iadd, 1) := by decide +kernel
theorem dL_law_919 : decode cL_law 919 = .ok (.iaload, 1) := by decide +kernel
theorem dL_law_920 : decode cL_law 920 = .ok (.aload_n 0, 1) := by decide +kernel
theorem dL_law_921 : decode cL_law 921 = .ok (.iload 4, 2) := by decide +kernel
theorem dL_law_923 : decode cL_law 923 = .ok (.iconst 2, 1) := by decide +kernel
theorem dL_law_924 : decode cL_law 924 = .ok (.iadd, 1) := by decide +kernel
theorem dL_law_925 : decode cL_law 925 = .ok (.iaload, 1) := by decide +kernel
theorem dL_law_926 : decode cL_law 926 = .ok (.aload_n 0, 1) := by decide +kernel
theorem dL_law_927 : decode cL_law 927 = .ok (.iload 4, 2) := by decide +kernel
theorem dL_law_929 : decode cL_law 929 = .ok (.iconst 3, 1) := by decide +kernel
theorem dL_law_930 : decode cL_law 930 = .ok (.iadd, 1) := by decide +kernel
theorem dL_law_931 : decode cL_law 931 = .ok (.iaload, 1) := by decide +kernel
theorem dL_law_932 : decode cL_law 932 = .ok (.invokevirtual 92, 3) := by decide +kernel
theorem dL_law_935 : decode cL_law 935 = .ok (.aload_n 2, 1) := by decide +kernel
theorem dL_law_936 : decode cL_law 936 = .ok (.aload_n 0, 1) := by decide +kernel
theorem dL_law_937 : decode cL_law 937 = .ok (.iload 4, 2) := by decide +kernel
theorem dL_law_939 : decode cL_law 939 = .ok (.iconst 1, 1) := by decide +kernel
theorem dL_law_940 : decode cL_law 940 = .ok (.iadd, 1) := by decide +kernel
theorem dL_law_941 : decode cL_law 941 = .ok (.iaload, 1) := by decide +kernel
theorem dL_law_942 : decode cL_law 942 = .ok (.aload_n 0, 1) := by decide +kernel
theorem dL_law_943 : decode cL_law 943 = .ok (.iload 4, 2) := by decide +kernel
theorem dL_law_945 : decode cL_law 945 = .ok (.iconst 2, 1) := by decide +kernel
theorem dL_law_946 : decode cL_law 946 = .ok (.iadd, 1) := by decide +kernel
theorem dL_law_947 : decode cL_law 947 = .ok (.iaload, 1) := by decide +kernel
theorem dL_law_948 : decode cL_law 948 = .ok (.aload_n 0, 1) := by decide +kernel
theorem dL_law_949 : decode cL_law 949 = .ok (.iload 4, 2) := by decide +kernel
theorem dL_law_951 : decode cL_law 951 = .ok (.iconst 3, 1) := by decide +kernel
theorem dL_law_952 : decode cL_law 952 = .ok (.iadd, 1) := by decide +kernel
theorem dL_law_953 : decode cL_law 953 = .ok (.iaload, 1) := by decide +kernel
theorem dL_law_954 : decode cL_law 954 = .ok (.invokevirtual 95, 3) := by decide +kernel
theorem dL_law_957 : decode cL_law 957 = .ok (.if_icmp .eq 708, 3) := by decide +kernel
theorem dL_law_960 : decode cL_law 960 = .ok (.iconst 0, 1) := by decide +kernel
theorem dL_law_961 : decode cL_law 961 = .ok (.ireturn, 1) := by decide +kernel
theorem dL_law_962 : decode cL_law 962 = .ok (.aload_n 1, 1) := by decide +kernel
theorem dL_law_963 : decode cL_law 963 = .ok (.aload_n 0, 1) := by decide +kernel
theorem dL_law_964 : decode cL_law 964 = .ok (.iload 4, 2) := by decide +kernel
theorem dL_law_966 : decode cL_law 966 = .ok (.iconst 1, 1) := by decide +kernel
theorem dL_law_967 : decode cL_law 967 = .ok (.iadd, 1) := by decide +kernel
theorem dL_law_968 : decode cL_law 968 = .ok (.iaload, 1) := by decide +kernel
theorem dL_law_969 : decode cL_law 969 = .ok (.aload_n 0, 1) := by decide +kernel
theorem dL_law_970 : decode cL_law 970 = .ok (.iload 4, 2) := by decide +kernel
theorem dL_law_972 : decode cL_law 972 = .ok (.iconst 2, 1) := by decide +kernel
theorem dL_law_973 : decode cL_law 973 = .ok (.iadd, 1) := by decide +kernel
theorem dL_law_974 : decode cL_law 974 = .ok (.iaload, 1) := by decide +kernel
theorem dL_law_975 : decode cL_law 975 = .ok (.aload_n 0, 1) := by decide +kernel
theorem dL_law_976 : decode cL_law 976 = .ok (.iload 4, 2) := by decide +kernel
theorem dL_law_978 : decode cL_law 978 = .ok (.iconst 3, 1) := by decide +kernel
theorem dL_law_979 : decode cL_law 979 = .ok (.iadd, 1) := by decide +kernel
theorem dL_law_980 : decode cL_law 980 = .ok (.iaload, 1) := by decide +kernel
theorem dL_law_981 : decode cL_law 981 = .ok (.aload_n 0, 1) := by decide +kernel
theorem dL_law_982 : decode cL_law 982 = .ok (.iload 4, 2) := by decide +kernel
theorem dL_law_984 : decode cL_law 984 = .ok (.iconst 4, 1) := by decide +kernel
theorem dL_law_985 : decode cL_law 985 = .ok (.iadd, 1) := by decide +kernel
theorem dL_law_986 : decode cL_law 986 = .ok (.iaload, 1) := by decide +kernel
theorem dL_law_987 : decode cL_law 987 = .ok (.invokevirtual 96, 3) := by decide +kernel
theorem dL_law_990 : decode cL_law 990 = .ok (.aload_n 2, 1) := by decide +kernel
theorem dL_law_991 : decode cL_law 991 = .ok (.aload_n 0, 1) := by decide +kernel
theorem dL_law_992 : decode cL_law 992 = .ok (.iload 4, 2) := by decide +kernel
theorem dL_law_994 : decode cL_law 994 = .ok (.iconst 1, 1) := by decide +kernel
theorem dL_law_995 : decode cL_law 995 = .ok (.iadd, 1) := by decide +kernel
theorem dL_law_996 : decode cL_law 996 = .ok (.iaload, 1) := by decide +kernel
theorem dL_law_997 : decode cL_law 997 = .ok (.aload_n 0, 1) := by decide +kernel
theorem dL_law_998 : decode cL_law 998 = .ok (.iload 4, 2) := by decide +kernel
theorem dL_law_1000 : decode cL_law 1000 = .ok (.iconst 2, 1) := by decide +kernel
theorem dL_law_1001 : decode cL_law 1001 = .ok (.iadd, 1) := by decide +kernel
theorem dL_law_1002 : decode cL_law 1002 = .ok (.iaload, 1) := by decide +kernel
theorem dL_law_1003 : decode cL_law 1003 = .ok (.aload_n 0, 1) := by decide +kernel
theorem dL_law_1004 : decode cL_law 1004 = .ok (.iload 4, 2) := by decide +kernel
theorem dL_law_1006 : decode cL_law 1006 = .ok (.iconst 3, 1) := by decide +kernel
theorem dL_law_1007 : decode cL_law 1007 = .ok (.iadd, 1) := by decide +kernel
theorem dL_law_1008 : decode cL_law 1008 = .ok (.iaload, 1) := by decide +kernel
theorem dL_law_1009 : decode cL_law 1009 = .ok (.aload_n 0, 1) := by decide +kernel
theorem dL_law_1010 : decode cL_law 1010 = .ok (.iload 4, 2) := by decide +kernel
theorem dL_law_1012 : decode cL_law 1012 = .ok (.iconst 4, 1) := by decide +kernel
theorem dL_law_1013 : decode cL_law 1013 = .ok (.iadd, 1) := by decide +kernel
theorem dL_law_1014 : decode cL_law 1014 = .ok (.iaload, 1) := by decide +kernel
theorem dL_law_1015 : decode cL_law 1015 = .ok (.invokevirtual 99, 3) := by decide +kernel
theorem dL_law_1018 : decode cL_law 1018 = .ok (.if_icmp .eq 647, 3) := by decide +kernel
theorem dL_law_1021 : decode cL_law 1021 = .ok (.iconst 0, 1) := by decide +kernel
theorem dL_law_1022 : decode cL_law 1022 = .ok (.ireturn, 1) := by decide +kernel
theorem dL_law_1023 : decode cL_law 1023 = .ok (.aload_n 1, 1) := by decide +kernel
theorem dL_law_1024 : decode cL_law 1024 = .ok (.aload_n 0, 1) := by decide +kernel
theorem dL_law_1025 : decode cL_law 1025 = .ok (.iload 4, 2) := by decide +kernel
theorem dL_law_1027 : decode cL_law 1027 = .ok (.iconst 1, 1) := by decide +kernel
theorem dL_law_1028 : decode cL_law 1028 = .ok (.iadd, 1) := by decide +kernel
theorem dL_law_1029 : decode cL_law 1029 = .ok (.iaload, 1) := by decide +kernel
theorem dL_law_1030 : decode cL_law 1030 = .ok (.aload_n 0, 1) := by decide +kernel
theorem dL_law_1031 : decode cL_law 1031 = .ok (.iload 4, 2) := by decide +kernel
theorem dL_law_1033 : decode cL_law 1033 = .ok (.iconst 2, 1) := by decide +kernel
theorem dL_law_1034 : decode cL_law 1034 = .ok (.iadd, 1) := by decide +kernel
theorem dL_law_1035 : decode cL_law 1035 = .ok (.iaload, 1) := by decide +kernel
theorem dL_law_1036 : decode cL_law 1036 = .ok (.invokevirtual 100, 3) := by decide +kernel
theorem dL_law_1039 : decode cL_law 1039 = .ok (.aload_n 2, 1) := by decide +kernel
theorem dL_law_1040 : decode cL_law 1040 = .ok (.aload_n 0, 1) := by decide +kernel
theorem dL_law_1041 : decode cL_law 1041 = .ok (.iload 4, 2) := by decide +kernel
theorem dL_law_1043 : decode cL_law 1043 = .ok (.iconst 1, 1) := by decide +kernel
theorem dL_law_1044 : decode cL_law 1044 = .ok (.iadd, 1) := by decide +kernel
theorem dL_law_1045 : decode cL_law 1045 = .ok (.iaload, 1) := by decide +kernel
theorem dL_law_1046 : decode cL_law 1046 = .ok (.aload_n 0, 1) := by decide +kernel
theorem dL_law_1047 : decode cL_law 1047 = .ok (.iload 4, 2) := by decide +kernel
theorem dL_law_1049 : decode cL_law 1049 = .ok (.iconst 2, 1) := by decide +kernel
theorem dL_law_1050 : decode cL_law 1050 = .ok (.iadd, 1) := by decide +kernel
theorem dL_law_1051 : decode cL_law 1051 = .ok (.iaload, 1) := by decide +kernel
theorem dL_law_1052 : decode cL_law 1052 = .ok (.invokevirtual 103, 3) := by decide +kernel
theorem dL_law_1055 : decode cL_law 1055 = .ok (.if_icmp .eq 610, 3) := by decide +kernel
theorem dL_law_1058 : decode cL_law 1058 = .ok (.iconst 0, 1) := by decide +kernel
theorem dL_law_1059 : decode cL_law 1059 = .ok (.ireturn, 1) := by decide +kernel
theorem dL_law_1060 : decode cL_law 1060 = .ok (.aload_n 1, 1) := by decide +kernel
theorem dL_law_1061 : decode cL_law 1061 = .ok (.aload_n 0, 1) := by decide +kernel
theorem dL_law_1062 : decode cL_law 1062 = .ok (.iload 4, 2) := by decide +kernel
theorem dL_law_1064 : decode cL_law 1064 = .ok (.iconst 1, 1) := by decide +kernel
theorem dL_law_1065 : decode cL_law 1065 = .ok (.iadd, 1) := by decide +kernel
theorem dL_law_1066 : decode cL_law 1066 = .ok (.iaload, 1) := by decide +kernel
theorem dL_law_1067 : decode cL_law 1067 = .ok (.invokevirtual 104, 3) := by decide +kernel
theorem dL_law_1070 : decode cL_law 1070 = .ok (.aload_n 2, 1) := by decide +kernel
theorem dL_law_1071 : decode cL_law 1071 = .ok (.aload_n 0, 1) := by decide +kernel
theorem dL_law_1072 : decode cL_law 1072 = .ok (.iload 4, 2) := by decide +kernel
theorem dL_law_1074 : decode cL_law 1074 = .ok (.iconst 1, 1) := by decide +kernel
theorem dL_law_1075 : decode cL_law 1075 = .ok (.iadd, 1) := by decide +kernel
theorem dL_law_1076 : decode cL_law 1076 = .ok (.iaload, 1) := by decide +kernel
theorem dL_law_1077 : decode cL_law 1077 = .ok (.invokevirtual 107, 3) := by decide +kernel
theorem dL_law_1080 : decode cL_law 1080 = .ok (.if_icmp .eq 585, 3) := by decide +kernel
theorem dL_law_1083 : decode cL_law 1083 = .ok (.iconst 0, 1) := by decide +kernel
theorem dL_law_1084 : decode cL_law 1084 = .ok (.ireturn, 1) := by decide +kernel
theorem dL_law_1085 : decode cL_law 1085 = .ok (.aload_n 1, 1) := by decide +kernel
theorem dL_law_1086 : decode cL_law 1086 = .ok (.aload_n 0, 1) := by decide +kernel
theorem dL_law_1087 : decode cL_law 1087 = .ok (.iload 4, 2) := by decide +kernel
theorem dL_law_1089 : decode cL_law 1089 = .ok (.iconst 1, 1) := by decide +kernel
theorem dL_law_1090 : decode cL_law 1090 = .ok (.iadd, 1) := by decide +kernel
theorem dL_law_1091 : decode cL_law 1091 = .ok (.iaload, 1) := by decide +kernel
theorem dL_law_1092 : decode cL_law 1092 = .ok (.aload_n 0, 1) := by decide +kernel
theorem dL_law_1093 : decode cL_law 1093 = .ok (.iload 4, 2) := by decide +kernel
theorem dL_law_1095 : decode cL_law 1095 = .ok (.iconst 2, 1) := by decide +kernel
theorem dL_law_1096 : decode cL_law 1096 = .ok (.iadd, 1) := by decide +kernel
theorem dL_law_1097 : decode cL_law 1097 = .ok (.iaload, 1) := by decide +kernel
theorem dL_law_1098 : decode cL_law 1098 = .ok (.invokevirtual 108, 3) := by decide +kernel
theorem dL_law_1101 : decode cL_law 1101 = .ok (.aload_n 2, 1) := by decide +kernel
theorem dL_law_1102 : decode cL_law 1102 = .ok (.aload_n 0, 1) := by decide +kernel
theorem dL_law_1103 : decode cL_law 1103 = .ok (.iload 4, 2) := by decide +kernel
theorem dL_law_1105 : decode cL_law 1105 = .ok (.iconst 1, 1) := by decide +kernel
theorem dL_law_1106 : decode cL_law 1106 = .ok (.iadd, 1) := by decide +kernel
theorem dL_law_1107 : decode cL_law 1107 = .ok (.iaload, 1) := by decide +kernel
theorem dL_law_1108 : decode cL_law 1108 = .ok (.aload_n 0, 1) := by decide +kernel
theorem dL_law_1109 : decode cL_law 1109 = .ok (.iload 4, 2) := by decide +kernel
theorem dL_law_1111 : decode cL_law 1111 = .ok (.iconst 2, 1) := by decide +kernel
theorem dL_law_1112 : decode cL_law 1112 = .ok (.iadd, 1) := by decide +kernel
theorem dL_law_1113 : decode cL_law 1113 = .ok (.iaload, 1) := by decide +kernel
theorem dL_law_1114 : decode cL_law 1114 = .ok (.invokevirtual 111, 3) := by decide +kernel
theorem dL_law_1117 : decode cL_law 1117 = .ok (.if_icmp .eq 548, 3) := by decide +kernel
theorem dL_law_1120 : decode cL_law 1120 = .ok (.iconst 0, 1) := by decide +kernel
theorem dL_law_1121 : decode cL_law 1121 = .ok (.ireturn, 1) := by decide +kernel
theorem dL_law_1122 : decode cL_law 1122 = .ok (.aload_n 1, 1) := by decide +kernel
theorem dL_law_1123 : decode cL_law 1123 = .ok (.aload_n 0, 1) := by decide +kernel
theorem dL_law_1124 : decode cL_law 1124 = .ok (.iload 4, 2) := by decide +kernel
theorem dL_law_1126 : decode cL_law 1126 = .ok (.iconst 1, 1) := by decide +kernel
theorem dL_law_1127 : decode cL_law 1127 = .ok (.iadd, 1) := by decide +kernel
theorem dL_law_1128 : decode cL_law 1128 = .ok (.iaload, 1) := by decide +kernel
theorem dL_law_1129 : decode cL_law 1129 = .ok (.invokevirtual 112, 3) := by decide +kernel
theorem dL_law_1132 : decode cL_law 1132 = .ok (.aload_n 2, 1) := by decide +kernel
theorem dL_law_1133 : decode cL_law 1133 = .ok (.aload_n 0, 1) := by decide +kernel
theorem dL_law_1134 : decode cL_law 1134 = .ok (.iload 4, 2) := by decide +kernel
theorem dL_law_1136 : decode cL_law 1136 = .ok (.iconst 1, 1) := by decide +kernel
theorem dL_law_1137 : decode cL_law 1137 = .ok (.iadd, 1) := by decide +kernel
theorem dL_law_1138 : decode cL_law 1138 = .ok (.iaload, 1) := by decide +kernel
theorem dL_law_1139 : decode cL_law 1139 = .ok (.invokevirtual 115, 3) := by decide +kernel
theorem dL_law_1142 : decode cL_law 1142 = .ok (.if_icmp .eq 523, 3) := by decide +kernel
theorem dL_law_1145 : decode cL_law 1145 = .ok (.iconst 0, 1) := by decide +kernel
theorem dL_law_1146 : decode cL_law 1146 = .ok (.ireturn, 1) := by decide +kernel
theorem dL_law_1147 : decode cL_law 1147 = .ok (.aload_n 1, 1) := by decide +kernel
theorem dL_law_1148 : decode cL_law 1148 = .ok (.aload_n 0, 1) := by decide +kernel
theorem dL_law_1149 : decode cL_law 1149 = .ok (.iload 4, 2) := by decide +kernel
theorem dL_law_1151 : decode cL_law 1151 = .ok (.iconst 1, 1) := by decide +kernel
theorem dL_law_1152 : decode cL_law 1152 = .ok (.iadd, 1) := by decide +kernel
theorem dL_law_1153 : decode cL_law 1153 = .ok (.iaload, 1) := by decide +kernel
theorem dL_law_1154 : decode cL_law 1154 = .ok (.invokevirtual 116, 3) := by decide +kernel
theorem dL_law_1157 : decode cL_law 1157 = .ok (.aload_n 2, 1) := by decide +kernel
theorem dL_law_1158 : decode cL_law 1158 = .ok (.aload_n 0, 1) := by decide +kernel
theorem dL_law_1159 : decode cL_law 1159 = .ok (.iload 4, 2) := by decide +kernel
theorem dL_law_1161 : decode cL_law 1161 = .ok (.iconst 1, 1) := by decide +kernel
theorem dL_law_1162 : decode cL_law 1162 = .ok (.iadd, 1) := by decide +kernel
theorem dL_law_1163 : decode cL_law 1163 = .ok (.iaload, 1) := by decide +kernel
theorem dL_law_1164 : decode cL_law 1164 = .ok (.invokevirtual 119, 3) := by decide +kernel
theorem dL_law_1167 : decode cL_law 1167 = .ok (.if_icmp .eq 498, 3) := by decide +kernel
theorem dL_law_1170 : decode cL_law 1170 = .ok (.iconst 0, 1) := by decide +kernel
theorem dL_law_1171 : decode cL_law 1171 = .ok (.ireturn, 1) := by decide +kernel
theorem dL_law_1172 : decode cL_law 1172 = .ok (.aload_n 1, 1) := by decide +kernel
theorem dL_law_1173 : decode cL_law 1173 = .ok (.aload_n 0, 1) := by decide +kernel
theorem dL_law_1174 : decode cL_law 1174 = .ok (.iload 4, 2) := by decide +kernel
theorem dL_law_1176 : decode cL_law 1176 = .ok (.iconst 1, 1) := by decide +kernel
theorem dL_law_1177 : decode cL_law 1177 = .ok (.iadd, 1) := by decide +kernel
theorem dL_law_1178 : decode cL_law 1178 = .ok (.iaload, 1) := by decide +kernel
theorem dL_law_1179 : decode cL_law 1179 = .ok (.invokevirtual 120, 3) := by decide +kernel
theorem dL_law_1182 : decode cL_law 1182 = .ok (.aload_n 2, 1) := by decide +kernel
theorem dL_law_1183 : decode cL_law 1183 = .ok (.aload_n 0, 1) := by decide +kernel
theorem dL_law_1184 : decode cL_law 1184 = .ok (.iload 4, 2) := by decide +kernel
theorem dL_law_1186 : decode cL_law 1186 = .ok (.iconst 1, 1) := by decide +kernel
theorem dL_law_1187 : decode cL_law 1187 = .ok (.iadd, 1) := by decide +kernel
theorem dL_law_1188 : decode cL_law 1188 = .ok (.iaload, 1) := by decide +kernel
theorem dL_law_1189 : decode cL_law 1189 = .ok (.invokevirtual 123, 3) := by decide +kernel
theorem dL_law_1192 : decode cL_law 1192 = .ok (.if_icmp .eq 473, 3) := by decide +kernel
theorem dL_law_1195 : decode cL_law 1195 = .ok (.iconst 0, 1) := by decide +kernel
theorem dL_law_1196 : decode cL_law 1196 = .ok (.ireturn, 1) := by decide +kernel
theorem dL_law_1197 : decode cL_law 1197 = .ok (.aload_n 1, 1) := by decide +kernel
theorem dL_law_1198 : decode cL_law 1198 = .ok (.aload_n 0, 1) := by decide +kernel
theorem dL_law_1199 : decode cL_law 1199 = .ok (.iload 4, 2) := by decide +kernel
theorem dL_law_1201 : decode cL_law 1201 = .ok (.iconst 1, 1) := by decide +kernel
theorem dL_law_1202 : decode cL_law 1202 = .ok (.iadd, 1) := by decide +kernel
theorem dL_law_1203 : decode cL_law 1203 = .ok (.iaload, 1) := by decide +kernel
theorem dL_law_1204 : decode cL_law 1204 = .ok (.aload_n 0, 1) := by decide +kernel
theorem dL_law_1205 : decode cL_law 1205 = .ok (.iload 4, 2) := by decide +kernel
theorem dL_law_1207 : decode cL_law 1207 = .ok (.iconst 2, 1) := by decide +kernel
theorem dL_law_1208 : decode cL_law 1208 = .ok (.iadd, 1) := by decide +kernel
theorem dL_law_1209 : decode cL_law 1209 = .ok (.iaload, 1) := by decide +kernel
theorem dL_law_1210 : decode cL_law 1210 = .ok (.invokevirtual 124, 3) := by decide +kernel
theorem dL_law_1213 : decode cL_law 1213 = .ok (.aload_n 2, 1) := by decide +kernel
theorem dL_law_1214 : decode cL_law 1214 = .ok (.aload_n 0, 1) := by decide +kernel
theorem dL_law_1215 : decode cL_law 1215 = .ok (.iload 4, 2) := by decide +kernel
theorem dL_law_1217 : decode cL_law 1217 = .ok (.iconst 1, 1) := by decide +kernel
theorem dL_law_1218 : decode cL_law 1218 = .ok (.iadd, 1) := by decide +kernel
theorem dL_law_1219 : decode cL_law 1219 = .ok (.iaload, 1) := by decide +kernel
theorem dL_law_1220 : decode cL_law 1220 = .ok (.aload_n 0, 1) := by decide +kernel
theorem dL_law_1221 : decode cL_law 1221 = .ok (.iload 4, 2) := by decide +kernel
theorem dL_law_1223 : decode cL_law 1223 = .ok (.iconst 2, 1) := by decide +kernel
theorem dL_law_1224 : decode cL_law 1224 = .ok (.iadd, 1) := by decide +kernel
theorem dL_law_1225 : decode cL_law 1225 = .ok (.iaload, 1) := by decide +kernel
theorem dL_law_1226 : decode cL_law 1226 = .ok (.invokevirtual 127, 3) := by decide +kernel
theorem dL_law_1229 : decode cL_law 1229 = .ok (.if_icmp .eq 436, 3) := by decide +kernel
theorem dL_law_1232 : decode cL_law 1232 = .ok (.iconst 0, 1) := by decide +kernel
theorem dL_law_1233 : decode cL_law 1233 = .ok (.ireturn, 1) := by decide +kernel
theorem dL_law_1234 : decode cL_law 1234 = .ok (.aload_n 1, 1) := by decide +kernel
theorem dL_law_1235 : decode cL_law 1235 = .ok (.aload_n 0, 1) := by decide +kernel
theorem dL_law_1236 : decode cL_law 1236 = .ok (.iload 4, 2) := by decide +kernel
theorem dL_law_1238 : decode cL_law 1238 = .ok (.iconst 1, 1) := by decide +kernel
theorem dL_law_1239 : decode cL_law 1239 = .ok (.iadd, 1) := by decide +kernel
theorem dL_law_1240 : decode cL_law 1240 = .ok (.iaload, 1) := by decide +kernel
theorem dL_law_1241 : decode cL_law 1241 = .ok (.aload_n 0, 1) := by decide +kernel
theorem dL_law_1242 : decode cL_law 1242 = .ok (.iload 4, 2) := by decide +kernel
theorem dL_law_1244 : decode cL_law 1244 = .ok (.iconst 2, 1) := by decide +kernel
theorem dL_law_1245 : decode cL_law 1245 = .ok (.iadd, 1) := by decide +kernel
theorem dL_law_1246 : decode cL_law 1246 = .ok (.iaload, 1) := by decide +kernel
theorem dL_law_1247 : decode cL_law 1247 = .ok (.invokevirtual 128, 3) := by decide +kernel
theorem dL_law_1250 : decode cL_law 1250 = .ok (.aload_n 2, 1) := by decide +kernel
theorem dL_law_1251 : decode cL_law 1251 = .ok (.aload_n 0, 1) := by decide +kernel
theorem dL_law_1252 : decode cL_law 1252 = .ok (.iload 4, 2) := by decide +kernel
theorem dL_law_1254 : decode cL_law 1254 = .ok (.iconst 1, 1) := by decide +kernel
theorem dL_law_1255 : decode cL_law 1255 = .ok (.iadd, 1) := by decide +kernel
theorem dL_law_1256 : decode cL_law 1256 = .ok (.iaload, 1) := by decide +kernel
theorem dL_law_1257 : decode cL_law 1257 = .ok (.aload_n 0, 1) := by decide +kernel
theorem dL_law_1258 : decode cL_law 1258 = .ok (.iload 4, 2) := by decide +kernel
theorem dL_law_1260 : decode cL_law 1260 = .ok (.iconst 2, 1) := by decide +kernel
theorem dL_law_1261 : decode cL_law 1261 = .ok (.iadd, 1) := by decide +kernel
theorem dL_law_1262 : decode cL_law 1262 = .ok (.iaload, 1) := by decide +kernel
theorem dL_law_1263 : decode cL_law 1263 = .ok (.invokevirtual 131, 3) := by decide +kernel
theorem dL_law_1266 : decode cL_law 1266 = .ok (.if_icmp .eq 399, 3) := by decide +kernel
theorem dL_law_1269 : decode cL_law 1269 = .ok (.iconst 0, 1) := by decide +kernel
theorem dL_law_1270 : decode cL_law 1270 = .ok (.ireturn, 1) := by decide +kernel
theorem dL_law_1271 : decode cL_law 1271 = .ok (.aload_n 1, 1) := by decide +kernel
theorem dL_law_1272 : decode cL_law 1272 = .ok (.aload_n 0, 1) := by decide +kernel
theorem dL_law_1273 : decode cL_law 1273 = .ok (.iload 4, 2) := by decide +kernel
theorem dL_law_1275 : decode cL_law 1275 = .ok (.iconst 1, 1) := by decide +kernel
theorem dL_law_1276 : decode cL_law 1276 = .ok (.iadd, 1) := by decide +kernel
theorem dL_law_1277 : decode cL_law 1277 = .ok (.iaload, 1) := by decide +kernel
theorem dL_law_1278 : decode cL_law 1278 = .ok (.invokevirtual 132, 3) := by decide +kernel
theorem dL_law_1281 : decode cL_law 1281 = .ok (.aload_n 2, 1) := by decide +kernel
theorem dL_law_1282 : decode cL_law 1282 = .ok (.aload_n 0, 1) := by decide +kernel
theorem dL_law_1283 : decode cL_law 1283 = .ok (.iload 4, 2) := by decide +kernel
theorem dL_law_1285 : decode cL_law 1285 = .ok (.iconst 1, 1) := by decide +kernel
theorem dL_law_1286 : decode cL_law 1286 = .ok (.iadd, 1) := by decide +kernel
theorem dL_law_1287 : decode cL_law 1287 = .ok (.iaload, 1) := by decide +kernel
theorem dL_law_1288 : decode cL_law 1288 = .ok (.invokevirtual 135, 3) := by decide +kernel
theorem dL_law_1291 : decode cL_law 1291 = .ok (.if_icmp .eq 374, 3) := by decide +kernel
theorem dL_law_1294 : decode cL_law 1294 = .ok (.iconst 0, 1) := by decide +kernel
theorem dL_law_1295 : decode cL_law 1295 = .ok (.ireturn, 1) := by decide +kernel
theorem dL_law_1296 : decode cL_law 1296 = .ok (.aload_n 1, 1) := by decide +kernel
theorem dL_law_1297 : decode cL_law 1297 = .ok (.invokevirtual 136, 3) := by decide +kernel
theorem dL_law_1300 : decode cL_law 1300 = .ok (.aload_n 2, 1) := by decide +kernel
theorem dL_law_1301 : decode cL_law 1301 = .ok (.invokevirtual 139, 3) := by decide +kernel
theorem dL_law_1304 : decode cL_law 1304 = .ok (.if_icmp .eq 361, 3) := by decide +kernel
theorem dL_law_1307 : decode cL_law 1307 = .ok (.iconst 0, 1) := by decide +kernel
theorem dL_law_1308 : decode cL_law 1308 = .ok (.ireturn, 1) := by decide +kernel
theorem dL_law_1309 : decode cL_law 1309 = .ok (.aload_n 1, 1) := by decide +kernel
theorem dL_law_1310 : decode cL_law 1310 = .ok (.aload_n 0, 1) := by decide +kernel
theorem dL_law_1311 : decode cL_law 1311 = .ok (.iload 4, 2) := by decide +kernel
theorem dL_law_1313 : decode cL_law 1313 = .ok (.iconst 1, 1) := by decide +kernel
theorem dL_law_1314 : decode cL_law 1314 = .ok (.iadd, 1) := by decide +kernel
theorem dL_law_1315 : decode cL_law 1315 = .ok (.iaload, 1) := by decide +kernel
theorem dL_law_1316 : decode cL_law 1316 = .ok (.invokevirtual 140, 3) := by decide +kernel
theorem dL_law_1319 : decode cL_law 1319 = .ok (.aload_n 2, 1) := by decide +kernel
theorem dL_law_1320 : decode cL_law 1320 = .ok (.aload_n 0, 1) := by decide +kernel
theorem dL_law_1321 : decode cL_law 1321 = .ok (.iload 4, 2) := by decide +kernel
theorem dL_law_1323 : decode cL_law 1323 = .ok (.iconst 1, 1) := by decide +kernel
theorem dL_law_1324 : decode cL_law 1324 = .ok (.iadd, 1) := by decide +kernel
theorem dL_law_1325 : decode cL_law 1325 = .ok (.iaload, 1) := by decide +kernel
theorem dL_law_1326 : decode cL_law 1326 = .ok (.invokevirtual 143, 3) := by decide +kernel
theorem dL_law_1329 : decode cL_law 1329 = .ok (.if_icmp .eq 336, 3) := by decide +kernel
theorem dL_law_1332 : decode cL_law 1332 = .ok (.iconst 0, 1) := by decide +kernel
theorem dL_law_1333 : decode cL_law 1333 = .ok (.ireturn, 1) := by decide +kernel
theorem dL_law_1334 : decode cL_law 1334 = .ok (.aload_n 1, 1) := by decide +kernel
theorem dL_law_1335 : decode cL_law 1335 = .ok (.invokevirtual 144, 3) := by decide +kernel
theorem dL_law_1338 : decode cL_law 1338 = .ok (.aload_n 2, 1) := by decide +kernel
theorem dL_law_1339 : decode cL_law 1339 = .ok (.invokevirtual 147, 3) := by decide +kernel
theorem dL_law_1342 : decode cL_law 1342 = .ok (.if_icmp .eq 323, 3) := by decide +kernel
theorem dL_law_1345 : decode cL_law 1345 = .ok (.iconst 0, 1) := by decide +kernel
theorem dL_law_1346 : decode cL_law 1346 = .ok (.ireturn, 1) := by decide +kernel
theorem dL_law_1347 : decode cL_law 1347 = .ok (.aload_n 1, 1) := by decide +kernel
theorem dL_law_1348 : decode cL_law 1348 = .ok (.aload_n 0, 1) := by decide +kernel
theorem dL_law_1349 : decode cL_law 1349 = .ok (.iload 4, 2) := by decide +kernel
theorem dL_law_1351 : decode cL_law 1351 = .ok (.iconst 1, 1) := by decide +kernel
theorem dL_law_1352 : decode cL_law 1352 = .ok (.iadd, 1) := by decide +kernel
theorem dL_law_1353 : decode cL_law 1353 = .ok (.iaload, 1) := by decide +kernel
theorem dL_law_1354 : decode cL_law 1354 = .ok (.aload_n 0, 1) := by decide +kernel
theorem dL_law_1355 : decode cL_law 1355 = .ok (.iload 4, 2) := by decide +kernel
theorem dL_law_1357 : decode cL_law 1357 = .ok (.iconst 2, 1) := by decide +kernel
theorem dL_law_1358 : decode cL_law 1358 = .ok (.iadd, 1) := by decide +kernel
theorem dL_law_1359 : decode cL_law 1359 = .ok (.iaload, 1) := by decide +kernel
theorem dL_law_1360 : decode cL_law 1360 = .ok (.invokevirtual 148, 3) := by decide +kernel
theorem dL_law_1363 : decode cL_law 1363 = .ok (.aload_n 2, 1) := by decide +kernel
theorem dL_law_1364 : decode cL_law 1364 = .ok (.aload_n 0, 1) := by decide +kernel
theorem dL_law_1365 : decode cL_law 1365 = .ok (.iload 4, 2) := by decide +kernel
theorem dL_law_1367 : decode cL_law 1367 = .ok (.iconst 1, 1) := by decide +kernel
theorem dL_law_1368 : decode cL_law 1368 = .ok (.iadd, 1) := by decide +kernel
theorem dL_law_1369 : decode cL_law 1369 = .ok (.iaload, 1) := by decide +kernel
theorem dL_law_1370 : decode cL_law 1370 = .ok (.aload_n 0, 1) := by decide +kernel
theorem dL_law_1371 : decode cL_law 1371 = .ok (.iload 4, 2) := by decide +kernel
theorem dL_law_1373 : decode cL_law 1373 = .ok (.iconst 2, 1) := by decide +kernel
theorem dL_law_1374 : decode cL_law 1374 = .ok (.iadd, 1) := by decide +kernel
theorem dL_law_1375 : decode cL_law 1375 = .ok (.iaload, 1) := by decide +kernel
theorem dL_law_1376 : decode cL_law 1376 = .ok (.invokevirtual 151, 3) := by decide +kernel
theorem dL_law_1379 : decode cL_law 1379 = .ok (.if_icmp .eq 286, 3) := by decide +kernel
theorem dL_law_1382 : decode cL_law 1382 = .ok (.iconst 0, 1) := by decide +kernel
theorem dL_law_1383 : decode cL_law 1383 = .ok (.ireturn, 1) := by decide +kernel
theorem dL_law_1384 : decode cL_law 1384 = .ok (.aload_n 1, 1) := by decide +kernel
theorem dL_law_1385 : decode cL_law 1385 = .ok (.aload_n 0, 1) := by decide +kernel
theorem dL_law_1386 : decode cL_law 1386 = .ok (.iload 4, 2) := by decide +kernel
theorem dL_law_1388 : decode cL_law 1388 = .ok (.iconst 1, 1) := by decide +kernel
theorem dL_law_1389 : decode cL_law 1389 = .ok (.iadd, 1) := by decide +kernel
theorem dL_law_1390 : decode cL_law 1390 = .ok (.iaload, 1) := by decide +kernel
theorem dL_law_1391 : decode cL_law 1391 = .ok (.invokevirtual 152, 3) := by decide +kernel
theorem dL_law_1394 : decode cL_law 1394 = .ok (.aload_n 2, 1) := by decide +kernel
theorem dL_law_1395 : decode cL_law 1395 = .ok (.aload_n 0, 1) := by decide +kernel
theorem dL_law_1396 : decode cL_law 1396 = .ok (.iload 4, 2) := by decide +kernel
theorem dL_law_1398 : decode cL_law 1398 = .ok (.iconst 1, 1) := by decide +kernel
theorem dL_law_1399 : decode cL_law 1399 = .ok (.iadd, 1) := by decide +kernel
theorem dL_law_1400 : decode cL_law 1400 = .ok (.iaload, 1) := by decide +kernel
theorem dL_law_1401 : decode cL_law 1401 = .ok (.invokevirtual 155, 3) := by decide +kernel
theorem dL_law_1404 : decode cL_law 1404 = .ok (.if_icmp .eq 261, 3) := by decide +kernel
theorem dL_law_1407 : decode cL_law 1407 = .ok (.iconst 0, 1) := by decide +kernel
theorem dL_law_1408 : decode cL_law 1408 = .ok (.ireturn, 1) := by decide +kernel
theorem dL_law_1409 : decode cL_law 1409 = .ok (.aload_n 1, 1) := by decide +kernel
theorem dL_law_1410 : decode cL_law 1410 = .ok (.aload_n 0, 1) := by decide +kernel
theorem dL_law_1411 : decode cL_law 1411 = .ok (.iload 4, 2) := by decide +kernel
theorem dL_law_1413 : decode cL_law 1413 = .ok (.iconst 1, 1) := by decide +kernel
theorem dL_law_1414 : decode cL_law 1414 = .ok (.iadd, 1) := by decide +kernel
theorem dL_law_1415 : decode cL_law 1415 = .ok (.iaload, 1) := by decide +kernel
theorem dL_law_1416 : decode cL_law 1416 = .ok (.aload_n 0, 1) := by decide +kernel
theorem dL_law_1417 : decode cL_law 1417 = .ok (.iload 4, 2) := by decide +kernel
theorem dL_law_1419 : decode cL_law 1419 = .ok (.iconst 2, 1) := by decide +kernel
theorem dL_law_1420 : decode cL_law 1420 = .ok (.iadd, 1) := by decide +kernel
theorem dL_law_1421 : decode cL_law 1421 = .ok (.iaload, 1) := by decide +kernel
theorem dL_law_1422 : decode cL_law 1422 = .ok (.invokevirtual 156, 3) := by decide +kernel
theorem dL_law_1425 : decode cL_law 1425 = .ok (.aload_n 2, 1) := by decide +kernel
theorem dL_law_1426 : decode cL_law 1426 = .ok (.aload_n 0, 1) := by decide +kernel
theorem dL_law_1427 : decode cL_law 1427 = .ok (.iload 4, 2) := by decide +kernel
theorem dL_law_1429 : decode cL_law 1429 = .ok (.iconst 1, 1) := by decide +kernel
theorem dL_law_1430 : decode cL_law 1430 = .ok (.iadd, 1) := by decide +kernel
theorem dL_law_1431 : decode cL_law 1431 = .ok (.iaload, 1) := by decide +kernel
theorem dL_law_1432 : decode cL_law 1432 = .ok (.aload_n 0, 1) := by decide +kernel
theorem dL_law_1433 : decode cL_law 1433 = .ok (.iload 4, 2) := by decide +kernel
theorem dL_law_1435 : decode cL_law 1435 = .ok (.iconst 2, 1) := by decide +kernel
theorem dL_law_1436 : decode cL_law 1436 = .ok (.iadd, 1) := by decide +kernel
theorem dL_law_1437 : decode cL_law 1437 = .ok (.iaload, 1) := by decide +kernel
theorem dL_law_1438 : decode cL_law 1438 = .ok (.invokevirtual 159, 3) := by decide +kernel
theorem dL_law_1441 : decode cL_law 1441 = .ok (.if_icmp .eq 224, 3) := by decide +kernel
theorem dL_law_1444 : decode cL_law 1444 = .ok (.iconst 0, 1) := by decide +kernel
theorem dL_law_1445 : decode cL_law 1445 = .ok (.ireturn, 1) := by decide +kernel
theorem dL_law_1446 : decode cL_law 1446 = .ok (.aload_n 1, 1) := by decide +kernel
theorem dL_law_1447 : decode cL_law 1447 = .ok (.aload_n 0, 1) := by decide +kernel
theorem dL_law_1448 : decode cL_law 1448 = .ok (.iload 4, 2) := by decide +kernel
theorem dL_law_1450 : decode cL_law 1450 = .ok (.iconst 1, 1) := by decide +kernel
theorem dL_law_1451 : decode cL_law 1451 = .ok (.iadd, 1) := by decide +kernel
theorem dL_law_1452 : decode cL_law 1452 = .ok (.iaload, 1) := by decide +kernel
theorem dL_law_1453 : decode cL_law 1453 = .ok (.aload_n 0, 1) := by decide +kernel
theorem dL_law_1454 : decode cL_law 1454 = .ok (.iload 4, 2) := by decide +kernel
theorem dL_law_1456 : decode cL_law 1456 = .ok (.iconst 2, 1) := by decide +kernel
theorem dL_law_1457 : decode cL_law 1457 = .ok (.iadd, 1) := by decide +kernel
theorem dL_law_1458 : decode cL_law 1458 = .ok (.iaload, 1) := by decide +kernel
theorem dL_law_1459 : decode cL_law 1459 = .ok (.invokevirtual 160, 3) := by decide +kernel
theorem dL_law_1462 : decode cL_law 1462 = .ok (.aload_n 2, 1) := by decide +kernel
theorem dL_law_1463 : decode cL_law 1463 = .ok (.aload_n 0, 1) := by decide +kernel
theorem dL_law_1464 : decode cL_law 1464 = .ok (.iload 4, 2) := by decide +kernel
theorem dL_law_1466 : decode cL_law 1466 = .ok (.iconst 1, 1) := by decide +kernel
theorem dL_law_1467 : decode cL_law 1467 = .ok (.iadd, 1) := by decide +kernel
theorem dL_law_1468 : decode cL_law 1468 = .ok (.iaload, 1) := by decide +kernel
theorem dL_law_1469 : decode cL_law 1469 = .ok (.aload_n 0, 1) := by decide +kernel
theorem dL_law_1470 : decode cL_law 1470 = .ok (.iload 4, 2) := by decide +kernel
theorem dL_law_1472 : decode cL_law 1472 = .ok (.iconst 2, 1) := by decide +kernel
theorem dL_law_1473 : decode cL_law 1473 = .ok (.iadd, 1) := by decide +kernel
theorem dL_law_1474 : decode cL_law 1474 = .ok (.iaload, 1) := by decide +kernel
theorem dL_law_1475 : decode cL_law 1475 = .ok (.invokevirtual 163, 3) := by decide +kernel
theorem dL_law_1478 : decode cL_law 1478 = .ok (.if_icmp .eq 187, 3) := by decide +kernel
theorem dL_law_1481 : decode cL_law 1481 = .ok (.iconst 0, 1) := by decide +kernel
theorem dL_law_1482 : decode cL_law 1482 = .ok (.ireturn, 1) := by decide +kernel
theorem dL_law_1483 : decode cL_law 1483 = .ok (.aload_n 1, 1) := by decide +kernel
theorem dL_law_1484 : decode cL_law 1484 = .ok (.aload_n 0, 1) := by decide +kernel
theorem dL_law_1485 : decode cL_law 1485 = .ok (.iload 4, 2) := by decide +kernel
theorem dL_law_1487 : decode cL_law 1487 = .ok (.iconst 1, 1) := by decide +kernel
theorem dL_law_1488 : decode cL_law 1488 = .ok (.iadd, 1) := by decide +kernel
theorem dL_law_1489 : decode cL_law 1489 = .ok (.iaload, 1) := by decide +kernel
theorem dL_law_1490 : decode cL_law 1490 = .ok (.aload_n 0, 1) := by decide +kernel
theorem dL_law_1491 : decode cL_law 1491 = .ok (.iload 4, 2) := by decide +kernel
theorem dL_law_1493 : decode cL_law 1493 = .ok (.iconst 2, 1) := by decide +kernel
theorem dL_law_1494 : decode cL_law 1494 = .ok (.iadd, 1) := by decide +kernel
theorem dL_law_1495 : decode cL_law 1495 = .ok (.iaload, 1) := by decide +kernel
theorem dL_law_1496 : decode cL_law 1496 = .ok (.invokevirtual 164, 3) := by decide +kernel
theorem dL_law_1499 : decode cL_law 1499 = .ok (.aload_n 2, 1) := by decide +kernel
theorem dL_law_1500 : decode cL_law 1500 = .ok (.aload_n 0, 1) := by decide +kernel
theorem dL_law_1501 : decode cL_law 1501 = .ok (.iload 4, 2) := by decide +kernel
theorem dL_law_1503 : decode cL_law 1503 = .ok (.iconst 1, 1) := by decide +kernel
theorem dL_law_1504 : decode cL_law 1504 = .ok (.iadd, 1) := by decide +kernel
theorem dL_law_1505 : decode cL_law 1505 = .ok (.iaload, 1) := by decide +kernel
theorem dL_law_1506 : decode cL_law 1506 = .ok (.aload_n 0, 1) := by decide +kernel
theorem dL_law_1507 : decode cL_law 1507 = .ok (.iload 4, 2) := by decide +kernel
theorem dL_law_1509 : decode cL_law 1509 = .ok (.iconst 2, 1) := by decide +kernel
theorem dL_law_1510 : decode cL_law 1510 = .ok (.iadd, 1) := by decide +kernel
theorem dL_law_1511 : decode cL_law 1511 = .ok (.iaload, 1) := by decide +kernel
theorem dL_law_1512 : decode cL_law 1512 = .ok (.invokevirtual 167, 3) := by decide +kernel
theorem dL_law_1515 : decode cL_law 1515 = .ok (.if_icmp .eq 150, 3) := by decide +kernel
theorem dL_law_1518 : decode cL_law 1518 = .ok (.iconst 0, 1) := by decide +kernel
theorem dL_law_1519 : decode cL_law 1519 = .ok (.ireturn, 1) := by decide +kernel
theorem dL_law_1520 : decode cL_law 1520 = .ok (.aload_n 1, 1) := by decide +kernel
theorem dL_law_1521 : decode cL_law 1521 = .ok (.aload_n 0, 1) := by decide +kernel
theorem dL_law_1522 : decode cL_law 1522 = .ok (.iload 4, 2) := by decide +kernel
theorem dL_law_1524 : decode cL_law 1524 = .ok (.iconst 1, 1) := by decide +kernel
theorem dL_law_1525 : decode cL_law 1525 = .ok (.iadd, 1) := by decide +kernel
theorem dL_law_1526 : decode cL_law 1526 = .ok (.iaload, 1) := by decide +kernel
theorem dL_law_1527 : decode cL_law 1527 = .ok (.invokevirtual 168, 3) := by decide +kernel
theorem dL_law_1530 : decode cL_law 1530 = .ok (.aload_n 2, 1) := by decide +kernel
theorem dL_law_1531 : decode cL_law 1531 = .ok (.aload_n 0, 1) := by decide +kernel
theorem dL_law_1532 : decode cL_law 1532 = .ok (.iload 4, 2) := by decide +kernel
theorem dL_law_1534 : decode cL_law 1534 = .ok (.iconst 1, 1) := by decide +kernel
theorem dL_law_1535 : decode cL_law 1535 = .ok (.iadd, 1) := by decide +kernel
theorem dL_law_1536 : decode cL_law 1536 = .ok (.iaload, 1) := by decide +kernel
theorem dL_law_1537 : decode cL_law 1537 = .ok (.invokevirtual 171, 3) := by decide +kernel
theorem dL_law_1540 : decode cL_law 1540 = .ok (.if_icmp .eq 125, 3) := by decide +kernel
theorem dL_law_1543 : decode cL_law 1543 = .ok (.iconst 0, 1) := by decide +kernel
theorem dL_law_1544 : decode cL_law 1544 = .ok (.ireturn, 1) := by decide +kernel
theorem dL_law_1545 : decode cL_law 1545 = .ok (.aload_n 1, 1) := by decide +kernel
theorem dL_law_1546 : decode cL_law 1546 = .ok (.invokevirtual 172, 3) := by decide +kernel
theorem dL_law_1549 : decode cL_law 1549 = .ok (.aload_n 2, 1) := by decide +kernel
theorem dL_law_1550 : decode cL_law 1550 = .ok (.invokevirtual 176, 3) := by decide +kernel
theorem dL_law_1553 : decode cL_law 1553 = .ok (.if_icmp .eq 112, 3) := by decide +kernel
theorem dL_law_1556 : decode cL_law 1556 = .ok (.iconst 0, 1) := by decide +kernel
theorem dL_law_1557 : decode cL_law 1557 = .ok (.ireturn, 1) := by decide +kernel
theorem dL_law_1558 : decode cL_law 1558 = .ok (.aload_n 1, 1) := by decide +kernel
theorem dL_law_1559 : decode cL_law 1559 = .ok (.invokevirtual 177, 3) := by decide +kernel
theorem dL_law_1562 : decode cL_law 1562 = .ok (.aload_n 2, 1) := by decide +kernel
theorem dL_law_1563 : decode cL_law 1563 = .ok (.invokevirtual 180, 3) := by decide +kernel
theorem dL_law_1566 : decode cL_law 1566 = .ok (.if_icmp .eq 99, 3) := by decide +kernel
theorem dL_law_1569 : decode cL_law 1569 = .ok (.iconst 0, 1) := by decide +kernel
theorem dL_law_1570 : decode cL_law 1570 = .ok (.ireturn, 1) := by decide +kernel
theorem dL_law_1571 : decode cL_law 1571 = .ok (.aload_n 1, 1) := by decide +kernel
theorem dL_law_1572 : decode cL_law 1572 = .ok (.aload_n 0, 1) := by decide +kernel
theorem dL_law_1573 : decode cL_law 1573 = .ok (.iload 4, 2) := by decide +kernel
theorem dL_law_1575 : decode cL_law 1575 = .ok (.iconst 1, 1) := by decide +kernel
theorem dL_law_1576 : decode cL_law 1576 = .ok (.iadd, 1) := by decide +kernel
theorem dL_law_1577 : decode cL_law 1577 = .ok (.iaload, 1) := by decide +kernel
theorem dL_law_1578 : decode cL_law 1578 = .ok (.aload_n 3, 1) := by decide +kernel
theorem dL_law_1579 : decode cL_law 1579 = .ok (.invokestatic 181, 3) := by decide +kernel
theorem dL_law_1582 : decode cL_law 1582 = .ok (.istore 5, 2) := by decide +kernel
theorem dL_law_1584 : decode cL_law 1584 = .ok (.aload_n 2, 1) := by decide +kernel
theorem dL_law_1585 : decode cL_law 1585 = .ok (.aload_n 0, 1) := by decide +kernel
theorem dL_law_1586 : decode cL_law 1586 = .ok (.iload 4, 2) := by decide +kernel
theorem dL_law_1588 : decode cL_law 1588 = .ok (.iconst 1, 1) := by decide +kernel
theorem dL_law_1589 : decode cL_law 1589 = .ok (.iadd, 1) := by decide +kernel
theorem dL_law_1590 : decode cL_law 1590 = .ok (.iaload, 1) := by decide +kernel
theorem dL_law_1591 : decode cL_law 1591 = .ok (.invokevirtual 186, 3) := by decide +kernel
theorem dL_law_1594 : decode cL_law 1594 = .ok (.istore 6, 2) := by decide +kernel
theorem dL_law_1596 : decode cL_law 1596 = .ok (.aload_n 2, 1) := by decide +kernel
theorem dL_law_1597 : decode cL_law 1597 = .ok (.invokevirtual 187, 3) := by decide +kernel
theorem dL_law_1600 : decode cL_law 1600 = .ok (.iload 5, 2) := by decide +kernel
theorem dL_law_1602 : decode cL_law 1602 = .ok (.if_icmp .eq 5, 3) := by decide +kernel
theorem dL_law_1605 : decode cL_law 1605 = .ok (.iconst 0, 1) := by decide +kernel
theorem dL_law_1606 : decode cL_law 1606 = .ok (.ireturn, 1) := by decide +kernel
theorem dL_law_1607 : decode cL_law 1607 = .ok (.iload 5, 2) := by decide +kernel
theorem dL_law_1609 : decode cL_law 1609 = .ok (.ifCond .ne 15, 3) := by decide +kernel
theorem dL_law_1612 : decode cL_law 1612 = .ok (.aload_n 3, 1) := by decide +kernel
theorem dL_law_1613 : decode cL_law 1613 = .ok (.iconst 0, 1) := by decide +kernel
theorem dL_law_1614 : decode cL_law 1614 = .ok (.laload, 1) := by decide +kernel
theorem dL_law_1615 : decode cL_law 1615 = .ok (.iload 6, 2) := by decide +kernel
theorem dL_law_1617 : decode cL_law 1617 = .ok (.i2l, 1) := by decide +kernel
theorem dL_law_1618 : decode cL_law 1618 = .ok (.lcmp, 1) := by decide +kernel
theorem dL_law_1619 : decode cL_law 1619 = .ok (.ifCond .eq 5, 3) := by decide +kernel
theorem dL_law_1622 : decode cL_law 1622 = .ok (.iconst 0, 1) := by decide +kernel
theorem dL_law_1623 : decode cL_law 1623 = .ok (.ireturn, 1) := by decide +kernel
theorem dL_law_1624 : decode cL_law 1624 = .ok (.goto 41, 3) := by decide +kernel
theorem dL_law_1627 : decode cL_law 1627 = .ok (.aload_n 1, 1) := by decide +kernel
theorem dL_law_1628 : decode cL_law 1628 = .ok (.aload_n 0, 1) := by decide +kernel
theorem dL_law_1629 : decode cL_law 1629 = .ok (.iload 4, 2) := by decide +kernel
theorem dL_law_1631 : decode cL_law 1631 = .ok (.iconst 1, 1) := by decide +kernel
theorem dL_law_1632 : decode cL_law 1632 = .ok (.iadd, 1) := by decide +kernel
theorem dL_law_1633 : decode cL_law 1633 = .ok (.iaload, 1) := by decide +kernel
theorem dL_law_1634 : decode cL_law 1634 = .ok (.invokevirtual 190, 3) := by decide +kernel
theorem dL_law_1637 : decode cL_law 1637 = .ok (.aload_n 2, 1) := by decide +kernel
theorem dL_law_1638 : decode cL_law 1638 = .ok (.aload_n 0, 1) := by decide +kernel
theorem dL_law_1639 : decode cL_law 1639 = .ok (.iload 4, 2) := by decide +kernel
theorem dL_law_1641 : decode cL_law 1641 = .ok (.iconst 1, 1) := by decide +kernel
theorem dL_law_1642 : decode cL_law 1642 = .ok (.iadd, 1) := by decide +kernel
theorem dL_law_1643 : decode cL_law 1643 = .ok (.iaload, 1) := by decide +kernel
theorem dL_law_1644 : decode cL_law 1644 = .ok (.invokevirtual 193, 3) := by decide +kernel
theorem dL_law_1647 : decode cL_law 1647 = .ok (.if_icmp .eq 18, 3) := by decide +kernel
theorem dL_law_1650 : decode cL_law 1650 = .ok (.iconst 0, 1) := by decide +kernel
theorem dL_law_1651 : decode cL_law 1651 = .ok (.ireturn, 1) := by decide +kernel
theorem dL_law_1652 : decode cL_law 1652 = .ok (.aload_n 1, 1) := by decide +kernel
theorem dL_law_1653 : decode cL_law 1653 = .ok (.invokevirtual 194, 3) := by decide +kernel
theorem dL_law_1656 : decode cL_law 1656 = .ok (.aload_n 2, 1) := by decide +kernel
theorem dL_law_1657 : decode cL_law 1657 = .ok (.invokevirtual 197, 3) := by decide +kernel
theorem dL_law_1660 : decode cL_law 1660 = .ok (.if_icmp .eq 5, 3) := by decide +kernel
theorem dL_law_1663 : decode cL_law 1663 = .ok (.iconst 0, 1) := by decide +kernel
theorem dL_law_1664 : decode cL_law 1664 = .ok (.ireturn, 1) := by decide +kernel
theorem dL_law_1665 : decode cL_law 1665 = .ok (.iinc 4 6, 3) := by decide +kernel
theorem dL_law_1668 : decode cL_law 1668 = .ok (.goto (-1645), 3) := by decide +kernel
theorem dL_law_1671 : decode cL_law 1671 = .ok (.iconst 1, 1) := by decide +kernel
theorem dL_law_1672 : decode cL_law 1672 = .ok (.ireturn, 1) := by decide +kernel
theorem dX0_init_0 : decode cX0_init 0 = .ok (.aload_n 0, 1) := by decide +kernel
theorem dX0_init_1 : decode cX0_init 1 = .ok (.invokespecial 3, 3) := by decide +kernel
theorem dX0_init_4 : decode cX0_init 4 = .ok (.aload_n 0, 1) := by decide +kernel
theorem dX0_init_5 : decode cX0_init 5 = .ok (.new 9, 3) := by decide +kernel
theorem dX0_init_8 : decode cX0_init 8 = .ok (.dup, 1) := by decide +kernel
theorem dX0_init_9 : decode cX0_init 9 = .ok (.invokespecial 11, 3) := by decide +kernel
theorem dX0_init_12 : decode cX0_init 12 = .ok (.putfield 12, 3) := by decide +kernel
theorem dX0_init_15 : decode cX0_init 15 = .ok (.return_, 1) := by decide +kernel
theorem dX0_decide_0 : decode cX0_decide 0 = .ok (.aload_n 1, 1) := by decide +kernel
theorem dX0_decide_1 : decode cX0_decide 1 = .ok (.getfield 18, 3) := by decide +kernel
theorem dX0_decide_4 : decode cX0_decide 4 = .ok (.astore 4, 2) := by decide +kernel
theorem dX0_decide_6 : decode cX0_decide 6 = .ok (.aload 4, 2) := by decide +kernel
theorem dX0_decide_8 : decode cX0_decide 8 = .ok (.getfield 24, 3) := by decide +kernel
theorem dX0_decide_11 : decode cX0_decide 11 = .ok (.istore 5, 2) := by decide +kernel
theorem dX0_decide_13 : decode cX0_decide 13 = .ok (.aload_n 0, 1) := by decide +kernel
theorem dX0_decide_14 : decode cX0_decide 14 = .ok (.getfield 12, 3) := by decide +kernel
theorem dX0_decide_17 : decode cX0_decide 17 = .ok (.aload 4, 2) := by decide +kernel
theorem dX0_decide_19 : decode cX0_decide 19 = .ok (.aload_n 1, 1) := by decide +kernel
theorem dX0_decide_20 : decode cX0_decide 20 = .ok (.iconst 1, 1) := by decide +kernel
theorem dX0_decide_21 : decode cX0_decide 21 = .ok (.invokevirtual 30, 3) := by decide +kernel
theorem dX0_decide_24 : decode cX0_decide 24 = .ok (.aload_n 1, 1) := by decide +kernel
theorem dX0_decide_25 : decode cX0_decide 25 = .ok (.iconst 2, 1) := by decide +kernel
theorem dX0_decide_26 : decode cX0_decide 26 = .ok (.invokevirtual 30, 3) := by decide +kernel
theorem dX0_decide_29 : decode cX0_decide 29 = .ok (.invokevirtual 34, 3) := by decide +kernel
theorem dX0_decide_32 : decode cX0_decide 32 = .ok (.aload_n 2, 1) := by decide +kernel
theorem dX0_decide_33 : decode cX0_decide 33 = .ok (.iconst 0, 1) := by decide +kernel
theorem dX0_decide_34 : decode cX0_decide 34 = .ok (.aload_n 0, 1) := by decide +kernel
theorem dX0_decide_35 : decode cX0_decide 35 = .ok (.getfield 12, 3) := by decide +kernel
theorem dX0_decide_38 : decode cX0_decide 38 = .ok (.getfield 38, 3) := by decide +kernel
theorem dX0_decide_41 : decode cX0_decide 41 = .ok (.iconst 0, 1) := by decide +kernel
theorem dX0_decide_42 : decode cX0_decide 42 = .ok (.bipush 6, 2) := by decide +kernel
theorem dX0_decide_44 : decode cX0_decide 44 = .ok (.invokestatic 42, 3) := by decide +kernel
theorem dX0_decide_47 : decode cX0_decide 47 = .ok (.aload_n 0, 1) := by decide +kernel
theorem dX0_decide_48 : decode cX0_decide 48 = .ok (.getfield 12, 3) := by decide +kernel
theorem dX0_decide_51 : decode cX0_decide 51 = .ok (.iload_n 3, 1) := by decide +kernel
theorem dX0_decide_52 : decode cX0_decide 52 = .ok (.aload 4, 2) := by decide +kernel
theorem dX0_decide_54 : decode cX0_decide 54 = .ok (.getfield 48, 3) := by decide +kernel
theorem dX0_decide_57 : decode cX0_decide 57 = .ok (.iload 5, 2) := by decide +kernel
theorem dX0_decide_59 : decode cX0_decide 59 = .ok (.invokevirtual 51, 3) := by decide +kernel
theorem dX0_decide_62 : decode cX0_decide 62 = .ok (.aload_n 0, 1) := by decide +kernel
theorem dX0_decide_63 : decode cX0_decide 63 = .ok (.aload_n 0, 1) := by decide +kernel
theorem dX0_decide_64 : decode cX0_decide 64 = .ok (.getfield 12, 3) := by decide +kernel
theorem dX0_decide_67 : decode cX0_decide 67 = .ok (.iload 5, 2) := by decide +kernel
theorem dX0_decide_69 : decode cX0_decide 69 = .ok (.invokevirtual 55, 3) := by decide +kernel
theorem dX0_decide_72 : decode cX0_decide 72 = .ok (.putfield 58, 3) := by decide +kernel
theorem dX0_decide_75 : decode cX0_decide 75 = .ok (.aload_n 0, 1) := by decide +kernel
theorem dX0_decide_76 : decode cX0_decide 76 = .ok (.aload_n 0, 1) := by decide +kernel
theorem dX0_decide_77 : decode cX0_decide 77 = .ok (.getfield 12, 3) := by decide +kernel
theorem dX0_decide_80 : decode cX0_decide 80 = .ok (.iload 5, 2) := by decide +kernel
theorem dX0_decide_82 : decode cX0_decide 82 = .ok (.invokevirtual 61, 3) := by decide +kernel
theorem dX0_decide_85 : decode cX0_decide 85 = .ok (.ifCond .eq 7, 3) := by decide +kernel
theorem dX0_decide_88 : decode cX0_decide 88 = .ok (.iconst 1, 1) := by decide +kernel
theorem dX0_decide_89 : decode cX0_decide 89 = .ok (.goto 4, 3) := by decide +kernel
theorem dX0_decide_92 : decode cX0_decide 92 = .ok (.iconst 0, 1) := by decide +kernel
theorem dX0_decide_93 : decode cX0_decide 93 = .ok (.putfield 65, 3) := by decide +kernel
theorem dX0_decide_96 : decode cX0_decide 96 = .ok (.aload_n 0, 1) := by decide +kernel
theorem dX0_decide_97 : decode cX0_decide 97 = .ok (.iconst 0, 1) := by decide +kernel
theorem dX0_decide_98 : decode cX0_decide 98 = .ok (.putfield 68, 3) := by decide +kernel
theorem dX0_decide_101 : decode cX0_decide 101 = .ok (.aload_n 0, 1) := by decide +kernel
theorem dX0_decide_102 : decode cX0_decide 102 = .ok (.getfield 58, 3) := by decide +kernel
theorem dX0_decide_105 : decode cX0_decide 105 = .ok (.ifCond .eq 79, 3) := by decide +kernel
theorem dX0_decide_108 : decode cX0_decide 108 = .ok (.aload 4, 2) := by decide +kernel
theorem dX0_decide_110 : decode cX0_decide 110 = .ok (.getfield 71, 3) := by decide +kernel
theorem dX0_decide_113 : decode cX0_decide 113 = .ok (.iconst 0, 1) := by decide +kernel
theorem dX0_decide_114 : decode cX0_decide 114 = .ok (.aload_n 0, 1) := by decide +kernel
theorem dX0_decide_115 : decode cX0_decide 115 = .ok (.getfield 12, 3) := by decide +kernel
theorem dX0_decide_118 : decode cX0_decide 118 = .ok (.getfield 38, 3) := by decide +kernel
theorem dX0_decide_121 : decode cX0_decide 121 = .ok (.iconst 0, 1) := by decide +kernel
theorem dX0_decide_122 : decode cX0_decide 122 = .ok (.bipush 6, 2) := by decide +kernel
theorem dX0_decide_124 : decode cX0_decide 124 = .ok (.invokestatic 42, 3) := by decide +kernel
theorem dX0_decide_127 : decode cX0_decide 127 = .ok (.aload_n 0, 1) := by decide +kernel
theorem dX0_decide_128 : decode cX0_decide 128 = .ok (.getfield 12, 3) := by decide +kernel
theorem dX0_decide_131 : decode cX0_decide 131 = .ok (.aload_n 0, 1) := by decide +kernel
theorem dX0_decide_132 : decode cX0_decide 132 = .ok (.getfield 58, 3) := by decide +kernel
theorem dX0_decide_135 : decode cX0_decide 135 = .ok (.aload 4, 2) := by decide +kernel
theorem dX0_decide_137 : decode cX0_decide 137 = .ok (.getfield 48, 3) := by decide +kernel
theorem dX0_decide_140 : decode cX0_decide 140 = .ok (.iload 5, 2) := by decide +kernel
theorem dX0_decide_142 : decode cX0_decide 142 = .ok (.invokevirtual 51, 3) := by decide +kernel
theorem dX0_decide_145 : decode cX0_decide 145 = .ok (.aload_n 0, 1) := by decide +kernel
theorem dX0_decide_146 : decode cX0_decide 146 = .ok (.aload_n 0, 1) := by decide +kernel
theorem dX0_decide_147 : decode cX0_decide 147 = .ok (.getfield 12, 3) := by decide +kernel
theorem dX0_decide_150 : decode cX0_decide 150 = .ok (.iload 5, 2) := by decide +kernel
theorem dX0_decide_152 : decode cX0_decide 152 = .ok (.invokevirtual 55, 3) := by decide +kernel
theorem dX0_decide_155 : decode cX0_decide 155 = .ok (.putfield 68, 3) := by decide +kernel
theorem dX0_decide_158 : decode cX0_decide 158 = .ok (.aload_n 0, 1) := by decide +kernel
theorem dX0_decide_159 : decode cX0_decide 159 = .ok (.dup, 1) := by decide +kernel
theorem dX0_decide_160 : decode cX0_decide 160 = .ok (.getfield 65, 3) := by decide +kernel
theorem dX0_decide_163 : decode cX0_decide 163 = .ok (.aload_n 0, 1) := by decide +kernel
theorem dX0_decide_164 : decode cX0_decide 164 = .ok (.getfield 12, 3) := by decide +kernel
theorem dX0_decide_167 : decode cX0_decide 167 = .ok (.iload 5, 2) := by decide +kernel
theorem dX0_decide_169 : decode cX0_decide 169 = .ok (.invokevirtual 61, 3) := by decide +kernel
theorem dX0_decide_172 : decode cX0_decide 172 = .ok (.ifCond .eq 7, 3) := by decide +kernel
theorem dX0_decide_175 : decode cX0_decide 175 = .ok (.iconst 1, 1) := by decide +kernel
theorem dX0_decide_176 : decode cX0_decide 176 = .ok (.goto 4, 3) := by decide +kernel
theorem dX0_decide_179 : decode cX0_decide 179 = .ok (.iconst 0, 1) := by decide +kernel
theorem dX0_decide_180 : decode cX0_decide 180 = .ok (.iadd, 1) := by decide +kernel
theorem dX0_decide_181 : decode cX0_decide 181 = .ok (.putfield 65, 3) := by decide +kernel
theorem dX0_decide_184 : decode cX0_decide 184 = .ok (.aload_n 0, 1) := by decide +kernel
theorem dX0_decide_185 : decode cX0_decide 185 = .ok (.aload_n 0, 1) := by decide +kernel
theorem dX0_decide_186 : decode cX0_decide 186 = .ok (.getfield 68, 3) := by decide +kernel
theorem dX0_decide_189 : decode cX0_decide 189 = .ok (.invokestatic 74, 3) := by decide +kernel
theorem dX0_decide_192 : decode cX0_decide 192 = .ok (.putfield 77, 3) := by decide +kernel
theorem dX0_decide_195 : decode cX0_decide 195 = .ok (.return_, 1) := by decide +kernel
theorem dX0_only_0 : decode cX0_only 0 = .ok (.iconst 0, 1) := by decide +kernel
theorem dX0_only_1 : decode cX0_only 1 = .ok (.istore_n 1, 1) := by decide +kernel
theorem dX0_only_2 : decode cX0_only 2 = .ok (.iload_n 1, 1) := by decide +kernel
theorem dX0_only_3 : decode cX0_only 3 = .ok (.bipush 6, 2) := by decide +kernel
theorem dX0_only_5 : decode cX0_only 5 = .ok (.if_icmp .ge 18, 3) := by decide +kernel
theorem dX0_only_8 : decode cX0_only 8 = .ok (.iload_n 0, 1) := by decide +kernel
theorem dX0_only_9 : decode cX0_only 9 = .ok (.iconst 1, 1) := by decide +kernel
theorem dX0_only_10 : decode cX0_only 10 = .ok (.iload_n 1, 1) := by decide +kernel
theorem dX0_only_11 : decode cX0_only 11 = .ok (.ishl, 1) := by decide +kernel
theorem dX0_only_12 : decode cX0_only 12 = .ok (.if_icmp .ne 5, 3) := by decide +kernel
theorem dX0_only_15 : decode cX0_only 15 = .ok (.iload_n 1, 1) := by decide +kernel
theorem dX0_only_16 : decode cX0_only 16 = .ok (.ireturn, 1) := by decide +kernel
theorem dX0_only_17 : decode cX0_only 17 = .ok (.iinc 1 1, 3) := by decide +kernel
theorem dX0_only_20 : decode cX0_only 20 = .ok (.goto (-18), 3) := by decide +kernel
theorem dX0_only_23 : decode cX0_only 23 = .ok (.bipush (-2), 2) := by decide +kernel
theorem dX0_only_25 : decode cX0_only 25 = .ok (.ireturn, 1) := by decide +kernel
theorem dX1_init_0 : decode cX1_init 0 = .ok (.aload_n 0, 1) := by decide +kernel
theorem dX1_init_1 : decode cX1_init 1 = .ok (.invokespecial 3, 3) := by decide +kernel
theorem dX1_init_4 : decode cX1_init 4 = .ok (.aload_n 0, 1) := by decide +kernel
theorem dX1_init_5 : decode cX1_init 5 = .ok (.bipush 6, 2) := by decide +kernel
theorem dX1_init_7 : decode cX1_init 7 = .ok (.newarray .int, 2) := by decide +kernel
theorem dX1_init_9 : decode cX1_init 9 = .ok (.putfield 9, 3) := by decide +kernel
theorem dX1_init_12 : decode cX1_init 12 = .ok (.aload_n 0, 1) := by decide +kernel
theorem dX1_init_13 : decode cX1_init 13 = .ok (.bipush 6, 2) := by decide +kernel
theorem dX1_init_15 : decode cX1_init 15 = .ok (.bipush 6, 2) := by decide +kernel
theorem dX1_init_17 : decode cX1_init 17 = .ok (.multianewarray 15 2, 4) := by decide +kernel
theorem dX1_init_21 : decode cX1_init 21 = .ok (.putfield 17, 3) := by decide +kernel
theorem dX1_init_24 : decode cX1_init 24 = .ok (.aload_n 0, 1) := by decide +kernel
theorem dX1_init_25 : decode cX1_init 25 = .ok (.bipush 6, 2) := by decide +kernel
theorem dX1_init_27 : decode cX1_init 27 = .ok (.sipush 401, 3) := by decide +kernel
theorem dX1_init_30 : decode cX1_init 30 = .ok (.multianewarray 15 2, 4) := by decide +kernel
theorem dX1_init_34 : decode cX1_init 34 = .ok (.putfield 20, 3) := by decide +kernel
theorem dX1_init_37 : decode cX1_init 37 = .ok (.aload_n 0, 1) := by decide +kernel
theorem dX1_init_38 : decode cX1_init 38 = .ok (.bipush 6, 2) := by decide +kernel
theorem dX1_init_40 : decode cX1_init 40 = .ok (.sipush 401, 3) := by decide +kernel
theorem dX1_init_43 : decode cX1_init 43 = .ok (.multianewarray 15 2, 4) := by decide +kernel
theorem dX1_init_47 : decode cX1_init 47 = .ok (.putfield 23, 3) := by decide +kernel
theorem dX1_init_50 : decode cX1_init 50 = .ok (.aload_n 0, 1) := by decide +kernel
theorem dX1_init_51 : decode cX1_init 51 = .ok (.bipush 6, 2) := by decide +kernel
theorem dX1_init_53 : decode cX1_init 53 = .ok (.sipush 401, 3) := by decide +kernel
theorem dX1_init_56 : decode cX1_init 56 = .ok (.multianewarray 15 2, 4) := by decide +kernel
theorem dX1_init_60 : decode cX1_init 60 = .ok (.putfield 26, 3) := by decide +kernel
theorem dX1_init_63 : decode cX1_init 63 = .ok (.aload_n 0, 1) := by decide +kernel
theorem dX1_init_64 : decode cX1_init 64 = .ok (.bipush 6, 2) := by decide +kernel
theorem dX1_init_66 : decode cX1_init 66 = .ok (.sipush 401, 3) := by decide +kernel
theorem dX1_init_69 : decode cX1_init 69 = .ok (.multianewarray 15 2, 4) := by decide +kernel
theorem dX1_init_73 : decode cX1_init 73 = .ok (.putfield 29, 3) := by decide +kernel
theorem dX1_init_76 : decode cX1_init 76 = .ok (.aload_n 0, 1) := by decide +kernel
theorem dX1_init_77 : decode cX1_init 77 = .ok (.bipush 6, 2) := by decide +kernel
theorem dX1_init_79 : decode cX1_init 79 = .ok (.sipush 401, 3) := by decide +kernel
theorem dX1_init_82 : decode cX1_init 82 = .ok (.multianewarray 15 2, 4) := by decide +kernel
theorem dX1_init_86 : decode cX1_init 86 = .ok (.putfield 32, 3) := by decide +kernel
theorem dX1_init_89 : decode cX1_init 89 = .ok (.return_, 1) := by decide +kernel
theorem dX1_wire_0 : decode cX1_wire 0 = .ok (.aload_n 0, 1) := by decide +kernel
theorem dX1_wire_1 : decode cX1_wire 1 = .ok (.aload_n 1, 1) := by decide +kernel
theorem dX1_wire_2 : decode cX1_wire 2 = .ok (.getfield 35, 3) := by decide +kernel
theorem dX1_wire_5 : decode cX1_wire 5 = .ok (.bipush 6, 2) := by decide +kernel
theorem dX1_wire_7 : decode cX1_wire 7 = .ok (.invokestatic 41, 3) := by decide +kernel
theorem dX1_wire_10 : decode cX1_wire 10 = .ok (.putfield 47, 3) := by decide +kernel
theorem dX1_wire_13 : decode cX1_wire 13 = .ok (.aload_n 0, 1) := by decide +kernel
theorem dX1_wire_14 : decode cX1_wire 14 = .ok (.aload_n 1, 1) := by decide +kernel
theorem dX1_wire_15 : decode cX1_wire 15 = .ok (.getfield 48, 3) := by decide +kernel
theorem dX1_wire_18 : decode cX1_wire 18 = .ok (.putfield 51, 3) := by decide +kernel
theorem dX1_wire_21 : decode cX1_wire 21 = .ok (.aload_n 0, 1) := by decide +kernel
theorem dX1_wire_22 : decode cX1_wire 22 = .ok (.iload_n 2, 1) := by decide +kernel
theorem dX1_wire_23 : decode cX1_wire 23 = .ok (.putfield 52, 3) := by decide +kernel
theorem dX1_wire_26 : decode cX1_wire 26 = .ok (.aload_n 0, 1) := by decide +kernel
theorem dX1_wire_27 : decode cX1_wire 27 = .ok (.iload_n 3, 1) := by decide +kernel
theorem dX1_wire_28 : decode cX1_wire 28 = .ok (.putfield 55, 3) := by decide +kernel
theorem dX1_wire_31 : decode cX1_wire 31 = .ok (.iconst 0, 1) := by decide +kernel
theorem dX1_wire_32 : decode cX1_wire 32 = .ok (.istore 4, 2) := by decide +kernel
theorem dX1_wire_34 : decode cX1_wire 34 = .ok (.iload 4, 2) := by decide +kernel
theorem dX1_wire_36 : decode cX1_wire 36 = .ok (.aload_n 0, 1) := by decide +kernel
theorem dX1_wire_37 : decode cX1_wire 37 = .ok (.getfield 47, 3) := by decide +kernel
theorem dX1_wire_40 : decode cX1_wire 40 = .ok (.if_icmp .ge 55, 3) := by decide +kernel
theorem dX1_wire_43 : decode cX1_wire 43 = .ok (.iconst 0, 1) := by decide +kernel
theorem dX1_wire_44 : decode cX1_wire 44 = .ok (.istore 5, 2) := by decide +kernel
theorem dX1_wire_46 : decode cX1_wire 46 = .ok (.iload 5, 2) := by decide +kernel
theorem dX1_wire_48 : decode cX1_wire 48 = .ok (.aload_n 0, 1) := by decide +kernel
theorem dX1_wire_49 : decode cX1_wire 49 = .ok (.getfield 47, 3) := by decide +kernel
theorem dX1_wire_52 : decode cX1_wire 52 = .ok (.if_icmp .ge 37, 3) := by decide +kernel
theorem dX1_wire_55 : decode cX1_wire 55 = .ok (.aload_n 0, 1) := by decide +kernel
theorem dX1_wire_56 : decode cX1_wire 56 = .ok (.getfield 17, 3) := by decide +kernel
theorem dX1_wire_59 : decode cX1_wire 59 = .ok (.iload 4, 2) := by decide +kernel
theorem dX1_wire_61 : decode cX1_wire 61 = .ok (.aaload, 1) := by decide +kernel
theorem dX1_wire_62 : decode cX1_wire 62 = .ok (.iload 5, 2) := by decide +kernel
theorem dX1_wire_64 : decode cX1_wire 64 = .ok (.aload_n 1, 1) := by decide +kernel
theorem dX1_wire_65 : decode cX1_wire 65 = .ok (.getfield 58, 3) := by decide +kernel
theorem dX1_wire_68 : decode cX1_wire 68 = .ok (.iload 4, 2) := by decide +kernel
theorem dX1_wire_70 : decode cX1_wire 70 = .ok (.iaload, 1) := by decide +kernel
theorem dX1_wire_71 : decode cX1_wire 71 = .ok (.aload_n 1, 1) := by decide +kernel
theorem dX1_wire_72 : decode cX1_wire 72 = .ok (.getfield 58, 3) := by decide +kernel
theorem dX1_wire_75 : decode cX1_wire 75 = .ok (.iload 5, 2) := by decide +kernel
theorem dX1_wire_77 : decode cX1_wire 77 = .ok (.iaload, 1) := by decide +kernel
theorem dX1_wire_78 : decode cX1_wire 78 = .ok (.isub, 1) := by decide +kernel
theorem dX1_wire_79 : decode cX1_wire 79 = .ok (.invokestatic 61, 3) := by decide +kernel
theorem dX1_wire_82 : decode cX1_wire 82 = .ok (.iastore, 1) := by decide +kernel
theorem dX1_wire_83 : decode cX1_wire 83 = .ok (.iinc 5 1, 3) := by decide +kernel
theorem dX1_wire_86 : decode cX1_wire 86 = .ok (.goto (-40), 3) := by decide +kernel
theorem dX1_wire_89 : decode cX1_wire 89 = .ok (.iinc 4 1, 3) := by decide +kernel
theorem dX1_wire_92 : decode cX1_wire 92 = .ok (.goto (-58), 3) := by decide +kernel
theorem dX1_wire_95 : decode cX1_wire 95 = .ok (.return_, 1) := by decide +kernel
theorem dX1_play_0 : decode cX1_play 0 = .ok (.aload_n 0, 1) := by decide +kernel
theorem dX1_play_1 : decode cX1_play 1 = .ok (.iload_n 1, 1) := by decide +kernel
theorem dX1_play_2 : decode cX1_play 2 = .ok (.putfield 65, 3) := by decide +kernel
theorem dX1_play_5 : decode cX1_play 5 = .ok (.aload_n 0, 1) := by decide +kernel
theorem dX1_play_6 : decode cX1_play 6 = .ok (.iload_n 2, 1) := by decide +kernel
theorem dX1_play_7 : decode cX1_play 7 = .ok (.putfield 68, 3) := by decide +kernel
theorem dX1_play_10 : decode cX1_play 10 = .ok (.aload_n 0, 1) := by decide +kernel
theorem dX1_play_11 : decode cX1_play 11 = .ok (.iconst 0, 1) := by decide +kernel
theorem dX1_play_12 : decode cX1_play 12 = .ok (.putfield 71, 3) := by decide +kernel
theorem dX1_play_15 : decode cX1_play 15 = .ok (.aload_n 0, 1) := by decide +kernel
theorem dX1_play_16 : decode cX1_play 16 = .ok (.iconst 0, 1) := by decide +kernel
theorem dX1_play_17 : decode cX1_play 17 = .ok (.putfield 74, 3) := by decide +kernel
theorem dX1_play_20 : decode cX1_play 20 = .ok (.aload_n 0, 1) := by decide +kernel
theorem dX1_play_21 : decode cX1_play 21 = .ok (.iconst 0, 1) := by decide +kernel
theorem dX1_play_22 : decode cX1_play 22 = .ok (.putfield 77, 3) := by decide +kernel
theorem dX1_play_25 : decode cX1_play 25 = .ok (.aload_n 0, 1) := by decide +kernel
theorem dX1_play_26 : decode cX1_play 26 = .ok (.invokevirtual 80, 3) := by decide +kernel
theorem dX1_play_29 : decode cX1_play 29 = .ok (.iconst 1, 1) := by decide +kernel
theorem dX1_play_30 : decode cX1_play 30 = .ok (.istore 4, 2) := by decide +kernel
theorem dX1_play_32 : decode cX1_play 32 = .ok (.iconst 0, 1) := by decide +kernel
theorem dX1_play_33 : decode cX1_play 33 = .ok (.istore 5, 2) := by decide +kernel
theorem dX1_play_35 : decode cX1_play 35 = .ok (.iload 4, 2) := by decide +kernel
theorem dX1_play_37 : decode cX1_play 37 = .ok (.ifCond .eq 66, 3) := by decide +kernel
theorem dX1_play_40 : decode cX1_play 40 = .ok (.iload 5, 2) := by decide +kernel
theorem dX1_play_42 : decode cX1_play 42 = .ok (.iload_n 3, 1) := by decide +kernel
theorem dX1_play_43 : decode cX1_play 43 = .ok (.if_icmp .gt 60, 3) := by decide +kernel
theorem dX1_play_46 : decode cX1_play 46 = .ok (.iload 5, 2) := by decide +kernel
theorem dX1_play_48 : decode cX1_play 48 = .ok (.sipush 400, 3) := by decide +kernel
theorem dX1_play_51 : decode cX1_play 51 = .ok (.if_icmp .gt 52, 3) := by decide +kernel
theorem dX1_play_54 : decode cX1_play 54 = .ok (.aload_n 0, 1) := by decide +kernel
theorem dX1_play_55 : decode cX1_play 55 = .ok (.iload 5, 2) := by decide +kernel
theorem dX1_play_57 : decode cX1_play 57 = .ok (.invokevirtual 83, 3) := by decide +kernel
theorem dX1_play_60 : decode cX1_play 60 = .ok (.aload_n 0, 1) := by decide +kernel
theorem dX1_play_61 : decode cX1_play 61 = .ok (.iload 5, 2) := by decide +kernel
theorem dX1_play_63 : decode cX1_play 63 = .ok (.invokevirtual 87, 3) := by decide +kernel
theorem dX1_play_66 : decode cX1_play 66 = .ok (.aload_n 0, 1) := by decide +kernel
theorem dX1_play_67 : decode cX1_play 67 = .ok (.iload 5, 2) := by decide +kernel
theorem dX1_play_69 : decode cX1_play 69 = .ok (.invokevirtual 90, 3) := by decide +kernel
theorem dX1_play_72 : decode cX1_play 72 = .ok (.aload_n 0, 1) := by decide +kernel
theorem dX1_play_73 : decode cX1_play 73 = .ok (.iload 5, 2) := by decide +kernel
theorem dX1_play_75 : decode cX1_play 75 = .ok (.putfield 77, 3) := by decide +kernel
theorem dX1_play_78 : decode cX1_play 78 = .ok (.iload 5, 2) := by decide +kernel
theorem dX1_play_80 : decode cX1_play 80 = .ok (.aload_n 0, 1) := by decide +kernel
theorem dX1_play_81 : decode cX1_play 81 = .ok (.getfield 71, 3) := by decide +kernel
theorem dX1_play_84 : decode cX1_play 84 = .ok (.isub, 1) := by decide +kernel
theorem dX1_play_85 : decode cX1_play 85 = .ok (.bipush 50, 2) := by decide +kernel
theorem dX1_play_87 : decode cX1_play 87 = .ok (.if_icmp .ge 7, 3) := by decide +kernel
theorem dX1_play_90 : decode cX1_play 90 = .ok (.iconst 1, 1) := by decide +kernel
theorem dX1_play_91 : decode cX1_play 91 = .ok (.goto 4, 3) := by decide +kernel
theorem dX1_play_94 : decode cX1_play 94 = .ok (.iconst 0, 1) := by decide +kernel
theorem dX1_play_95 : decode cX1_play 95 = .ok (.istore 4, 2) := by decide +kernel
theorem dX1_play_97 : decode cX1_play 97 = .ok (.iinc 5 1, 3) := by decide +kernel
theorem dX1_play_100 : decode cX1_play 100 = .ok (.goto (-65), 3) := by decide +kernel
theorem dX1_play_103 : decode cX1_play 103 = .ok (.return_, 1) := by decide +kernel
theorem dX1_clearDips_0 : decode cX1_clearDips 0 = .ok (.iconst 0, 1) := by decide +kernel
theorem dX1_clearDips_1 : decode cX1_clearDips 1 = .ok (.istore_n 1, 1) := by decide +kernel
theorem dX1_clearDips_2 : decode cX1_clearDips 2 = .ok (.iload_n 1, 1) := by decide +kernel
theorem dX1_clearDips_3 : decode cX1_clearDips 3 = .ok (.bipush 6, 2) := by decide +kernel
theorem dX1_clearDips_5 : decode cX1_clearDips 5 = .ok (.if_icmp .ge 41, 3) := by decide +kernel
theorem dX1_clearDips_8 : decode cX1_clearDips 8 = .ok (.iconst 0, 1) := by decide +kernel
theorem dX1_clearDips_9 : decode cX1_clearDips 9 = .ok (.istore_n 2, 1) := by decide +kernel
theorem dX1_clearDips_10 : decode cX1_clearDips 10 = .ok (.iload_n 2, 1) := by decide +kernel
theorem dX1_clearDips_11 : decode cX1_clearDips 11 = .ok (.aload_n 0, 1) := by decide +kernel
theorem dX1_clearDips_12 : decode cX1_clearDips 12 = .ok (.getfield 93, 3) := by decide +kernel
theorem dX1_clearDips_15 : decode cX1_clearDips 15 = .ok (.if_icmp .ge 25, 3) := by decide +kernel
theorem dX1_clearDips_18 : decode cX1_clearDips 18 = .ok (.iload_n 2, 1) := by decide +kernel
theorem dX1_clearDips_19 : decode cX1_clearDips 19 = .ok (.sipush 400, 3) := by decide +kernel
theorem dX1_clearDips_22 : decode cX1_clearDips 22 = .ok (.if_icmp .gt 18, 3) := by decide +kernel
theorem dX1_clearDips_25 : decode cX1_clearDips 25 = .ok (.aload_n 0, 1) := by decide +kernel
theorem dX1_clearDips_26 : decode cX1_clearDips 26 = .ok (.getfield 32, 3) := by decide +kernel
theorem dX1_clearDips_29 : decode cX1_clearDips 29 = .ok (.iload_n 1, 1) := by decide +kernel
theorem dX1_clearDips_30 : decode cX1_clearDips 30 = .ok (.aaload, 1) := by decide +kernel
theorem dX1_clearDips_31 : decode cX1_clearDips 31 = .ok (.iload_n 2, 1) := by decide +kernel
theorem dX1_clearDips_32 : decode cX1_clearDips 32 = .ok (.iconst 0, 1) := by decide +kernel
theorem dX1_clearDips_33 : decode cX1_clearDips 33 = .ok (.iastore, 1) := by decide +kernel
theorem dX1_clearDips_34 : decode cX1_clearDips 34 = .ok (.iinc 2 1, 3) := by decide +kernel
theorem dX1_clearDips_37 : decode cX1_clearDips 37 = .ok (.goto (-27), 3) := by decide +kernel
theorem dX1_clearDips_40 : decode cX1_clearDips 40 = .ok (.iinc 1 1, 3) := by decide +kernel
theorem dX1_clearDips_43 : decode cX1_clearDips 43 = .ok (.goto (-41), 3) := by decide +kernel
theorem dX1_clearDips_46 : decode cX1_clearDips 46 = .ok (.aload_n 0, 1) := by decide +kernel
theorem dX1_clearDips_47 : decode cX1_clearDips 47 = .ok (.iconst 0, 1) := by decide +kernel
theorem dX1_clearDips_48 : decode cX1_clearDips 48 = .ok (.putfield 93, 3) := by decide +kernel
theorem dX1_clearDips_51 : decode cX1_clearDips 51 = .ok (.return_, 1) := by decide +kernel
theorem dX1_driveAll_0 : decode cX1_driveAll 0 = .ok (.iload_n 1, 1) := by decide +kernel
theorem dX1_driveAll_1 : decode cX1_driveAll 1 = .ok (.aload_n 0, 1) := by decide +kernel
theorem dX1_driveAll_2 : decode cX1_driveAll 2 = .ok (.getfield 51, 3) := by decide +kernel
theorem dX1_driveAll_5 : decode cX1_driveAll 5 = .ok (.isub, 1) := by decide +kernel
theorem dX1_driveAll_6 : decode cX1_driveAll 6 = .ok (.istore_n 2, 1) := by decide +kernel
theorem dX1_driveAll_7 : decode cX1_driveAll 7 = .ok (.iconst 0, 1) := by decide +kernel
theorem dX1_driveAll_8 : decode cX1_driveAll 8 = .ok (.istore_n 3, 1) := by decide +kernel
theorem dX1_driveAll_9 : decode cX1_driveAll 9 = .ok (.iload_n 3, 1) := by decide +kernel
theorem dX1_driveAll_10 : decode cX1_driveAll 10 = .ok (.aload_n 0, 1) := by decide +kernel
theorem dX1_driveAll_11 : decode cX1_driveAll 11 = .ok (.getfield 47, 3) := by decide +kernel
theorem dX1_driveAll_14 : decode cX1_driveAll 14 = .ok (.if_icmp .ge 74, 3) := by decide +kernel
theorem dX1_driveAll_17 : decode cX1_driveAll 17 = .ok (.aload_n 0, 1) := by decide +kernel
theorem dX1_driveAll_18 : decode cX1_driveAll 18 = .ok (.getfield 20, 3) := by decide +kernel
theorem dX1_driveAll_21 : decode cX1_driveAll 21 = .ok (.iload_n 3, 1) := by decide +kernel
theorem dX1_driveAll_22 : decode cX1_driveAll 22 = .ok (.aaload, 1) := by decide +kernel
theorem dX1_driveAll_23 : decode cX1_driveAll 23 = .ok (.iload_n 1, 1) := by decide +kernel
theorem dX1_driveAll_24 : decode cX1_driveAll 24 = .ok (.aload_n 0, 1) := by decide +kernel
theorem dX1_driveAll_25 : decode cX1_driveAll 25 = .ok (.getfield 65, 3) := by decide +kernel
theorem dX1_driveAll_28 : decode cX1_driveAll 28 = .ok (.iload_n 3, 1) := by decide +kernel
theorem dX1_driveAll_29 : decode cX1_driveAll 29 = .ok (.invokestatic 96, 3) := by decide +kernel
theorem dX1_driveAll_32 : decode cX1_driveAll 32 = .ok (.ifCond .eq 12, 3) := by decide +kernel
theorem dX1_driveAll_35 : decode cX1_driveAll 35 = .ok (.aload_n 0, 1) := by decide +kernel
theorem dX1_driveAll_36 : decode cX1_driveAll 36 = .ok (.getfield 9, 3) := by decide +kernel
theorem dX1_driveAll_39 : decode cX1_driveAll 39 = .ok (.iload_n 3, 1) := by decide +kernel
theorem dX1_driveAll_40 : decode cX1_driveAll 40 = .ok (.iaload, 1) := by decide +kernel
theorem dX1_driveAll_41 : decode cX1_driveAll 41 = .ok (.goto 4, 3) := by decide +kernel
theorem dX1_driveAll_44 : decode cX1_driveAll 44 = .ok (.iconst 0, 1) := by decide +kernel
theorem dX1_driveAll_45 : decode cX1_driveAll 45 = .ok (.iastore, 1) := by decide +kernel
theorem dX1_driveAll_46 : decode cX1_driveAll 46 = .ok (.iload_n 2, 1) := by decide +kernel
theorem dX1_driveAll_47 : decode cX1_driveAll 47 = .ok (.ifCond .lt 35, 3) := by decide +kernel
theorem dX1_driveAll_50 : decode cX1_driveAll 50 = .ok (.iload_n 2, 1) := by decide +kernel
theorem dX1_driveAll_51 : decode cX1_driveAll 51 = .ok (.iload_n 1, 1) := by decide +kernel
theorem dX1_driveAll_52 : decode cX1_driveAll 52 = .ok (.if_icmp .ge 30, 3) := by decide +kernel
theorem dX1_driveAll_55 : decode cX1_driveAll 55 = .ok (.aload_n 0, 1) := by decide +kernel
theorem dX1_driveAll_56 : decode cX1_driveAll 56 = .ok (.getfield 20, 3) := by decide +kernel
theorem dX1_driveAll_59 : decode cX1_driveAll 59 = .ok (.iload_n 3, 1) := by decide +kernel
theorem dX1_driveAll_60 : decode cX1_driveAll 60 = .ok (.aaload, 1) := by decide +kernel
theorem dX1_driveAll_61 : decode cX1_driveAll 61 = .ok (.iload_n 1, 1) := by decide +kernel
theorem dX1_driveAll_62 : decode cX1_driveAll 62 = .ok (.aload_n 0, 1) := by decide +kernel
theorem dX1_driveAll_63 : decode cX1_driveAll 63 = .ok (.getfield 20, 3) := by decide +kernel
theorem dX1_driveAll_66 : decode cX1_driveAll 66 = .ok (.iload_n 3, 1) := by decide +kernel
theorem dX1_driveAll_67 : decode cX1_driveAll 67 = .ok (.aaload, 1) := by decide +kernel
theorem dX1_driveAll_68 : decode cX1_driveAll 68 = .ok (.iload_n 1, 1) := by decide +kernel
theorem dX1_driveAll_69 : decode cX1_driveAll 69 = .ok (.iaload, 1) := by decide +kernel
theorem dX1_driveAll_70 : decode cX1_driveAll 70 = .ok (.aload_n 0, 1) := by decide +kernel
theorem dX1_driveAll_71 : decode cX1_driveAll 71 = .ok (.getfield 29, 3) := by decide +kernel
theorem dX1_driveAll_74 : decode cX1_driveAll 74 = .ok (.iload_n 3, 1) := by decide +kernel
theorem dX1_driveAll_75 : decode cX1_driveAll 75 = .ok (.aaload, 1) := by decide +kernel
theorem dX1_driveAll_76 : decode cX1_driveAll 76 = .ok (.iload_n 2, 1) := by decide +kernel
theorem dX1_driveAll_77 : decode cX1_driveAll 77 = .ok (.iaload, 1) := by decide +kernel
theorem dX1_driveAll_78 : decode cX1_driveAll 78 = .ok (.invokestatic 100, 3) := by decide +kernel
theorem dX1_driveAll_81 : decode cX1_driveAll 81 = .ok (.iastore, 1) := by decide +kernel
theorem dX1_driveAll_82 : decode cX1_driveAll 82 = .ok (.iinc 3 1, 3) := by decide +kernel
theorem dX1_driveAll_85 : decode cX1_driveAll 85 = .ok (.goto (-76), 3) := by decide +kernel
theorem dX1_driveAll_88 : decode cX1_driveAll 88 = .ok (.return_, 1) := by decide +kernel
theorem dX1_above_0 : decode cX1_above 0 = .ok (.iload_n 1, 1) := by decide +kernel
theorem dX1_above_1 : decode cX1_above 1 = .ok (.ifCond .ge 7, 3) := by decide +kernel
theorem dX1_above_4 : decode cX1_above 4 = .ok (.iload_n 0, 1) := by decide +kernel
theorem dX1_above_5 : decode cX1_above 5 = .ok (.goto 12, 3) := by decide +kernel
theorem dX1_above_8 : decode cX1_above 8 = .ok (.iload_n 0, 1) := by decide +kernel
theorem dX1_above_9 : decode cX1_above 9 = .ok (.iload_n 1, 1) := by decide +kernel
theorem dX1_above_10 : decode cX1_above 10 = .ok (.iconst 1, 1) := by decide +kernel
theorem dX1_above_11 : decode cX1_above 11 = .ok (.iadd, 1) := by decide +kernel
theorem dX1_above_12 : decode cX1_above 12 = .ok (.ishr, 1) := by decide +kernel
theorem dX1_above_13 : decode cX1_above 13 = .ok (.iload_n 1, 1) := by decide +kernel
theorem dX1_above_14 : decode cX1_above 14 = .ok (.iconst 1, 1) := by decide +kernel
theorem dX1_above_15 : decode cX1_above 15 = .ok (.iadd, 1) := by decide +kernel
theorem dX1_above_16 : decode cX1_above 16 = .ok (.ishl, 1) := by decide +kernel
theorem dX1_above_17 : decode cX1_above 17 = .ok (.ireturn, 1) := by decide +kernel
theorem dX1_letGoAll_0 : decode cX1_letGoAll 0 = .ok (.iconst 0, 1) := by decide +kernel
theorem dX1_letGoAll_1 : decode cX1_letGoAll 1 = .ok (.istore_n 2, 1) := by decide +kernel
theorem dX1_letGoAll_2 : decode cX1_letGoAll 2 = .ok (.iload_n 1, 1) := by decide +kernel
theorem dX1_letGoAll_3 : decode cX1_letGoAll 3 = .ok (.ifCond .le 121, 3) := by decide +kernel
theorem dX1_letGoAll_6 : decode cX1_letGoAll 6 = .ok (.iload_n 2, 1) := by decide +kernel
theorem dX1_letGoAll_7 : decode cX1_letGoAll 7 = .ok (.aload_n 0, 1) := by decide +kernel
theorem dX1_letGoAll_8 : decode cX1_letGoAll 8 = .ok (.getfield 47, 3) := by decide +kernel
theorem dX1_letGoAll_11 : decode cX1_letGoAll 11 = .ok (.if_icmp .ge 113, 3) := by decide +kernel
theorem dX1_letGoAll_14 : decode cX1_letGoAll 14 = .ok (.aload_n 0, 1) := by decide +kernel
theorem dX1_letGoAll_15 : decode cX1_letGoAll 15 = .ok (.getfield 20, 3) := by decide +kernel
theorem dX1_letGoAll_18 : decode cX1_letGoAll 18 = .ok (.iload_n 2, 1) := by decide +kernel
theorem dX1_letGoAll_19 : decode cX1_letGoAll 19 = .ok (.aaload, 1) := by decide +kernel
theorem dX1_letGoAll_20 : decode cX1_letGoAll 20 = .ok (.iload_n 1, 1) := by decide +kernel
theorem dX1_letGoAll_21 : decode cX1_letGoAll 21 = .ok (.iaload, 1) := by decide +kernel
theorem dX1_letGoAll_22 : decode cX1_letGoAll 22 = .ok (.aload_n 0, 1) := by decide +kernel
theorem dX1_letGoAll_23 : decode cX1_letGoAll 23 = .ok (.getfield 20, 3) := by decide +kernel
theorem dX1_letGoAll_26 : decode cX1_letGoAll 26 = .ok (.iload_n 2, 1) := by decide +kernel
theorem dX1_letGoAll_27 : decode cX1_letGoAll 27 = .ok (.aaload, 1) := by decide +kernel
theorem dX1_letGoAll_28 : decode cX1_letGoAll 28 = .ok (.iload_n 1, 1) := by decide +kernel
theorem dX1_letGoAll_29 : decode cX1_letGoAll 29 = .ok (.iconst 1, 1) := by decide +kernel
theorem dX1_letGoAll_30 : decode cX1_letGoAll 30 = .ok (.isub, 1) := by decide +kernel
theorem dX1_letGoAll_31 : decode cX1_letGoAll 31 = .ok (.iaload, 1) := by decide +kernel
theorem dX1_letGoAll_32 : decode cX1_letGoAll 32 = .ok (.if_icmp .eq 86, 3) := by decide +kernel
theorem dX1_letGoAll_35 : decode cX1_letGoAll 35 = .ok (.aload_n 0, 1) := by decide +kernel
theorem dX1_letGoAll_36 : decode cX1_letGoAll 36 = .ok (.iload_n 1, 1) := by decide +kernel
theorem dX1_letGoAll_37 : decode cX1_letGoAll 37 = .ok (.putfield 71, 3) := by decide +kernel
theorem dX1_letGoAll_40 : decode cX1_letGoAll 40 = .ok (.aload_n 0, 1) := by decide +kernel
theorem dX1_letGoAll_41 : decode cX1_letGoAll 41 = .ok (.getfield 20, 3) := by decide +kernel
theorem dX1_letGoAll_44 : decode cX1_letGoAll 44 = .ok (.iload_n 2, 1) := by decide +kernel
theorem dX1_letGoAll_45 : decode cX1_letGoAll 45 = .ok (.aaload, 1) := by decide +kernel
theorem dX1_letGoAll_46 : decode cX1_letGoAll 46 = .ok (.iload_n 1, 1) := by decide +kernel
theorem dX1_letGoAll_47 : decode cX1_letGoAll 47 = .ok (.iconst 1, 1) := by decide +kernel
theorem dX1_letGoAll_48 : decode cX1_letGoAll 48 = .ok (.isub, 1) := by decide +kernel
theorem dX1_letGoAll_49 : decode cX1_letGoAll 49 = .ok (.iaload, 1) := by decide +kernel
theorem dX1_letGoAll_50 : decode cX1_letGoAll 50 = .ok (.aload_n 0, 1) := by decide +kernel
theorem dX1_letGoAll_51 : decode cX1_letGoAll 51 = .ok (.getfield 20, 3) := by decide +kernel
theorem dX1_letGoAll_54 : decode cX1_letGoAll 54 = .ok (.iload_n 2, 1) := by decide +kernel
theorem dX1_letGoAll_55 : decode cX1_letGoAll 55 = .ok (.aaload, 1) := by decide +kernel
theorem dX1_letGoAll_56 : decode cX1_letGoAll 56 = .ok (.iload_n 1, 1) := by decide +kernel
theorem dX1_letGoAll_57 : decode cX1_letGoAll 57 = .ok (.iaload, 1) := by decide +kernel
theorem dX1_letGoAll_58 : decode cX1_letGoAll 58 = .ok (.iconst (-1), 1) := by decide +kernel
theorem dX1_letGoAll_59 : decode cX1_letGoAll 59 = .ok (.ixor, 1) := by decide +kernel
theorem dX1_letGoAll_60 : decode cX1_letGoAll 60 = .ok (.iand, 1) := by decide +kernel
theorem dX1_letGoAll_61 : decode cX1_letGoAll 61 = .ok (.istore_n 3, 1) := by decide +kernel
theorem dX1_letGoAll_62 : decode cX1_letGoAll 62 = .ok (.iconst 0, 1) := by decide +kernel
theorem dX1_letGoAll_63 : decode cX1_letGoAll 63 = .ok (.istore 4, 2) := by decide +kernel
theorem dX1_letGoAll_65 : decode cX1_letGoAll 65 = .ok (.iload 4, 2) := by decide +kernel
theorem dX1_letGoAll_67 : decode cX1_letGoAll 67 = .ok (.bipush 6, 2) := by decide +kernel
theorem dX1_letGoAll_69 : decode cX1_letGoAll 69 = .ok (.if_icmp .ge 49, 3) := by decide +kernel
theorem dX1_letGoAll_72 : decode cX1_letGoAll 72 = .ok (.iload_n 3, 1) := by decide +kernel
theorem dX1_letGoAll_73 : decode cX1_letGoAll 73 = .ok (.iload 4, 2) := by decide +kernel
theorem dX1_letGoAll_75 : decode cX1_letGoAll 75 = .ok (.invokestatic 96, 3) := by decide +kernel
theorem dX1_letGoAll_78 : decode cX1_letGoAll 78 = .ok (.ifCond .eq 14, 3) := by decide +kernel
theorem dX1_letGoAll_81 : decode cX1_letGoAll 81 = .ok (.aload_n 0, 1) := by decide +kernel
theorem dX1_letGoAll_82 : decode cX1_letGoAll 82 = .ok (.iload_n 2, 1) := by decide +kernel
theorem dX1_letGoAll_83 : decode cX1_letGoAll 83 = .ok (.iload 4, 2) := by decide +kernel
theorem dX1_letGoAll_85 : decode cX1_letGoAll 85 = .ok (.iload_n 1, 1) := by decide +kernel
theorem dX1_letGoAll_86 : decode cX1_letGoAll 86 = .ok (.invokevirtual 103, 3) := by decide +kernel
theorem dX1_letGoAll_89 : decode cX1_letGoAll 89 = .ok (.goto 4, 3) := by decide +kernel
theorem dX1_letGoAll_92 : decode cX1_letGoAll 92 = .ok (.iconst 0, 1) := by decide +kernel
theorem dX1_letGoAll_93 : decode cX1_letGoAll 93 = .ok (.istore 5, 2) := by decide +kernel
theorem dX1_letGoAll_95 : decode cX1_letGoAll 95 = .ok (.iload 5, 2) := by decide +kernel
theorem dX1_letGoAll_97 : decode cX1_letGoAll 97 = .ok (.ifCond .le 15, 3) := by decide +kernel
theorem dX1_letGoAll_100 : decode cX1_letGoAll 100 = .ok (.aload_n 0, 1) := by decide +kernel
theorem dX1_letGoAll_101 : decode cX1_letGoAll 101 = .ok (.iload_n 2, 1) := by decide +kernel
theorem dX1_letGoAll_102 : decode cX1_letGoAll 102 = .ok (.iload 4, 2) := by decide +kernel
theorem dX1_letGoAll_104 : decode cX1_letGoAll 104 = .ok (.iload_n 1, 1) := by decide +kernel
theorem dX1_letGoAll_105 : decode cX1_letGoAll 105 = .ok (.iconst 2, 1) := by decide +kernel
theorem dX1_letGoAll_106 : decode cX1_letGoAll 106 = .ok (.iload 5, 2) := by decide +kernel
theorem dX1_letGoAll_108 : decode cX1_letGoAll 108 = .ok (.imul, 1) := by decide +kernel
theorem dX1_letGoAll_109 : decode cX1_letGoAll 109 = .ok (.invokevirtual 107, 3) := by decide +kernel
theorem dX1_letGoAll_112 : decode cX1_letGoAll 112 = .ok (.iinc 4 1, 3) := by decide +kernel
theorem dX1_letGoAll_115 : decode cX1_letGoAll 115 = .ok (.goto (-50), 3) := by decide +kernel
theorem dX1_letGoAll_118 : decode cX1_letGoAll 118 = .ok (.iinc 2 1, 3) := by decide +kernel
theorem dX1_letGoAll_121 : decode cX1_letGoAll 121 = .ok (.goto (-119), 3) := by decide +kernel
theorem dX1_letGoAll_124 : decode cX1_letGoAll 124 = .ok (.return_, 1) := by decide +kernel
theorem dX1_nearestDriver_0 : decode cX1_nearestDriver 0 = .ok (.iconst 0, 1) := by decide +kernel
theorem dX1_nearestDriver_1 : decode cX1_nearestDriver 1 = .ok (.istore 4, 2) := by decide +kernel
theorem dX1_nearestDriver_3 : decode cX1_nearestDriver 3 = .ok (.iconst 0, 1) := by decide +kernel
theorem dX1_nearestDriver_4 : decode cX1_nearestDriver 4 = .ok (.istore 5, 2) := by decide +kernel
theorem dX1_nearestDriver_6 : decode cX1_nearestDriver 6 = .ok (.iload 5, 2) := by decide +kernel
theorem dX1_nearestDriver_8 : decode cX1_nearestDriver 8 = .ok (.aload_n 0, 1) := by decide +kernel
theorem dX1_nearestDriver_9 : decode cX1_nearestDriver 9 = .ok (.getfield 47, 3) := by decide +kernel
theorem dX1_nearestDriver_12 : decode cX1_nearestDriver 12 = .ok (.if_icmp .ge 70, 3) := by decide +kernel
theorem dX1_nearestDriver_15 : decode cX1_nearestDriver 15 = .ok (.aload_n 0, 1) := by decide +kernel
theorem dX1_nearestDriver_16 : decode cX1_nearestDriver 16 = .ok (.getfield 17, 3) := by decide +kernel
theorem dX1_nearestDriver_19 : decode cX1_nearestDriver 19 = .ok (.iload_n 1, 1) := by decide +kernel
theorem dX1_nearestDriver_20 : decode cX1_nearestDriver 20 = .ok (.aaload, 1) := by decide +kernel
theorem dX1_nearestDriver_21 : decode cX1_nearestDriver 21 = .ok (.iload 5, 2) := by decide +kernel
theorem dX1_nearestDriver_23 : decode cX1_nearestDriver 23 = .ok (.iaload, 1) := by decide +kernel
theorem dX1_nearestDriver_24 : decode cX1_nearestDriver 24 = .ok (.istore 6, 2) := by decide +kernel
theorem dX1_nearestDriver_26 : decode cX1_nearestDriver 26 = .ok (.iload 5, 2) := by decide +kernel
theorem dX1_nearestDriver_28 : decode cX1_nearestDriver 28 = .ok (.iload_n 1, 1) := by decide +kernel
theorem dX1_nearestDriver_29 : decode cX1_nearestDriver 29 = .ok (.if_icmp .eq 23, 3) := by decide +kernel
theorem dX1_nearestDriver_32 : decode cX1_nearestDriver 32 = .ok (.aload_n 0, 1) := by decide +kernel
theorem dX1_nearestDriver_33 : decode cX1_nearestDriver 33 = .ok (.getfield 20, 3) := by decide +kernel
theorem dX1_nearestDriver_36 : decode cX1_nearestDriver 36 = .ok (.iload 5, 2) := by decide +kernel
theorem dX1_nearestDriver_38 : decode cX1_nearestDriver 38 = .ok (.aaload, 1) := by decide +kernel
theorem dX1_nearestDriver_39 : decode cX1_nearestDriver 39 = .ok (.iload_n 3, 1) := by decide +kernel
theorem dX1_nearestDriver_40 : decode cX1_nearestDriver 40 = .ok (.iaload, 1) := by decide +kernel
theorem dX1_nearestDriver_41 : decode cX1_nearestDriver 41 = .ok (.iload_n 2, 1) := by decide +kernel
theorem dX1_nearestDriver_42 : decode cX1_nearestDriver 42 = .ok (.ishr, 1) := by decide +kernel
theorem dX1_nearestDriver_43 : decode cX1_nearestDriver 43 = .ok (.iconst 1, 1) := by decide +kernel
theorem dX1_nearestDriver_44 : decode cX1_nearestDriver 44 = .ok (.iand, 1) := by decide +kernel
theorem dX1_nearestDriver_45 : decode cX1_nearestDriver 45 = .ok (.ifCond .eq 7, 3) := by decide +kernel
theorem dX1_nearestDriver_48 : decode cX1_nearestDriver 48 = .ok (.iconst 1, 1) := by decide +kernel
theorem dX1_nearestDriver_49 : decode cX1_nearestDriver 49 = .ok (.goto 4, 3) := by decide +kernel
theorem dX1_nearestDriver_52 : decode cX1_nearestDriver 52 = .ok (.iconst 0, 1) := by decide +kernel
theorem dX1_nearestDriver_53 : decode cX1_nearestDriver 53 = .ok (.istore 7, 2) := by decide +kernel
theorem dX1_nearestDriver_55 : decode cX1_nearestDriver 55 = .ok (.iload 7, 2) := by decide +kernel
theorem dX1_nearestDriver_57 : decode cX1_nearestDriver 57 = .ok (.ifCond .eq 19, 3) := by decide +kernel
theorem dX1_nearestDriver_60 : decode cX1_nearestDriver 60 = .ok (.iload 4, 2) := by decide +kernel
theorem dX1_nearestDriver_62 : decode cX1_nearestDriver 62 = .ok (.ifCond .eq 10, 3) := by decide +kernel
theorem dX1_nearestDriver_65 : decode cX1_nearestDriver 65 = .ok (.iload 6, 2) := by decide +kernel
theorem dX1_nearestDriver_67 : decode cX1_nearestDriver 67 = .ok (.iload 4, 2) := by decide +kernel
theorem dX1_nearestDriver_69 : decode cX1_nearestDriver 69 = .ok (.if_icmp .ge 7, 3) := by decide +kernel
theorem dX1_nearestDriver_72 : decode cX1_nearestDriver 72 = .ok (.iload 6, 2) := by decide +kernel
theorem dX1_nearestDriver_74 : decode cX1_nearestDriver 74 = .ok (.istore 4, 2) := by decide +kernel
theorem dX1_nearestDriver_76 : decode cX1_nearestDriver 76 = .ok (.iinc 5 1, 3) := by decide +kernel
theorem dX1_nearestDriver_79 : decode cX1_nearestDriver 79 = .ok (.goto (-73), 3) := by decide +kernel
theorem dX1_nearestDriver_82 : decode cX1_nearestDriver 82 = .ok (.iload 4, 2) := by decide +kernel
theorem dX1_nearestDriver_84 : decode cX1_nearestDriver 84 = .ok (.ireturn, 1) := by decide +kernel
theorem dX1_dip_0 : decode cX1_dip 0 = .ok (.aload_n 0, 1) := by decide +kernel
theorem dX1_dip_1 : decode cX1_dip 1 = .ok (.dup, 1) := by decide +kernel
theorem dX1_dip_2 : decode cX1_dip 2 = .ok (.getfield 74, 3) := by decide +kernel
theorem dX1_dip_5 : decode cX1_dip 5 = .ok (.iconst 1, 1) := by decide +kernel
theorem dX1_dip_6 : decode cX1_dip 6 = .ok (.iadd, 1) := by decide +kernel
theorem dX1_dip_7 : decode cX1_dip 7 = .ok (.putfield 74, 3) := by decide +kernel
theorem dX1_dip_10 : decode cX1_dip 10 = .ok (.iconst 0, 1) := by decide +kernel
theorem dX1_dip_11 : decode cX1_dip 11 = .ok (.istore 5, 2) := by decide +kernel
theorem dX1_dip_13 : decode cX1_dip 13 = .ok (.iload 5, 2) := by decide +kernel
theorem dX1_dip_15 : decode cX1_dip 15 = .ok (.aload_n 0, 1) := by decide +kernel
theorem dX1_dip_16 : decode cX1_dip 16 = .ok (.getfield 47, 3) := by decide +kernel
theorem dX1_dip_19 : decode cX1_dip 19 = .ok (.if_icmp .ge 90, 3) := by decide +kernel
theorem dX1_dip_22 : decode cX1_dip 22 = .ok (.iload_n 3, 1) := by decide +kernel
theorem dX1_dip_23 : decode cX1_dip 23 = .ok (.aload_n 0, 1) := by decide +kernel
theorem dX1_dip_24 : decode cX1_dip 24 = .ok (.getfield 17, 3) := by decide +kernel
theorem dX1_dip_27 : decode cX1_dip 27 = .ok (.iload_n 1, 1) := by decide +kernel
theorem dX1_dip_28 : decode cX1_dip 28 = .ok (.aaload, 1) := by decide +kernel
theorem dX1_dip_29 : decode cX1_dip 29 = .ok (.iload 5, 2) := by decide +kernel
theorem dX1_dip_31 : decode cX1_dip 31 = .ok (.iaload, 1) := by decide +kernel
theorem dX1_dip_32 : decode cX1_dip 32 = .ok (.iadd, 1) := by decide +kernel
theorem dX1_dip_33 : decode cX1_dip 33 = .ok (.istore 6, 2) := by decide +kernel
theorem dX1_dip_35 : decode cX1_dip 35 = .ok (.iload 6, 2) := by decide +kernel
theorem dX1_dip_37 : decode cX1_dip 37 = .ok (.istore 7, 2) := by decide +kernel
theorem dX1_dip_39 : decode cX1_dip 39 = .ok (.iload 7, 2) := by decide +kernel
theorem dX1_dip_41 : decode cX1_dip 41 = .ok (.iload 6, 2) := by decide +kernel
theorem dX1_dip_43 : decode cX1_dip 43 = .ok (.iload 4, 2) := by decide +kernel
theorem dX1_dip_45 : decode cX1_dip 45 = .ok (.iadd, 1) := by decide +kernel
theorem dX1_dip_46 : decode cX1_dip 46 = .ok (.if_icmp .ge 57, 3) := by decide +kernel
theorem dX1_dip_49 : decode cX1_dip 49 = .ok (.iload 7, 2) := by decide +kernel
theorem dX1_dip_51 : decode cX1_dip 51 = .ok (.sipush 400, 3) := by decide +kernel
theorem dX1_dip_54 : decode cX1_dip 54 = .ok (.if_icmp .gt 49, 3) := by decide +kernel
theorem dX1_dip_57 : decode cX1_dip 57 = .ok (.aload_n 0, 1) := by decide +kernel
theorem dX1_dip_58 : decode cX1_dip 58 = .ok (.getfield 32, 3) := by decide +kernel
theorem dX1_dip_61 : decode cX1_dip 61 = .ok (.iload 5, 2) := by decide +kernel
theorem dX1_dip_63 : decode cX1_dip 63 = .ok (.aaload, 1) := by decide +kernel
theorem dX1_dip_64 : decode cX1_dip 64 = .ok (.iload 7, 2) := by decide +kernel
theorem dX1_dip_66 : decode cX1_dip 66 = .ok (.dup2, 1) := by decide +kernel
theorem dX1_dip_67 : decode cX1_dip 67 = .ok (.iaload, 1) := by decide +kernel
theorem dX1_dip_68 : decode cX1_dip 68 = .ok (.iconst 1, 1) := by decide +kernel
theorem dX1_dip_69 : decode cX1_dip 69 = .ok (.iload_n 2, 1) := by decide +kernel
theorem dX1_dip_70 : decode cX1_dip 70 = .ok (.ishl, 1) := by decide +kernel
theorem dX1_dip_71 : decode cX1_dip 71 = .ok (.ior, 1) := by decide +kernel
theorem dX1_dip_72 : decode cX1_dip 72 = .ok (.iastore, 1) := by decide +kernel
theorem dX1_dip_73 : decode cX1_dip 73 = .ok (.aload_n 0, 1) := by decide +kernel
theorem dX1_dip_74 : decode cX1_dip 74 = .ok (.aload_n 0, 1) := by decide +kernel
theorem dX1_dip_75 : decode cX1_dip 75 = .ok (.getfield 93, 3) := by decide +kernel
theorem dX1_dip_78 : decode cX1_dip 78 = .ok (.iload 7, 2) := by decide +kernel
theorem dX1_dip_80 : decode cX1_dip 80 = .ok (.if_icmp .le 10, 3) := by decide +kernel
theorem dX1_dip_83 : decode cX1_dip 83 = .ok (.aload_n 0, 1) := by decide +kernel
theorem dX1_dip_84 : decode cX1_dip 84 = .ok (.getfield 93, 3) := by decide +kernel
theorem dX1_dip_87 : decode cX1_dip 87 = .ok (.goto 7, 3) := by decide +kernel
theorem dX1_dip_90 : decode cX1_dip 90 = .ok (.iload 7, 2) := by decide +kernel
theorem dX1_dip_92 : decode cX1_dip 92 = .ok (.iconst 1, 1) := by decide +kernel
theorem dX1_dip_93 : decode cX1_dip 93 = .ok (.iadd, 1) := by decide +kernel
theorem dX1_dip_94 : decode cX1_dip 94 = .ok (.putfield 93, 3) := by decide +kernel
theorem dX1_dip_97 : decode cX1_dip 97 = .ok (.iinc 7 1, 3) := by decide +kernel
theorem dX1_dip_100 : decode cX1_dip 100 = .ok (.goto (-61), 3) := by decide +kernel
theorem dX1_dip_103 : decode cX1_dip 103 = .ok (.iinc 5 1, 3) := by decide +kernel
theorem dX1_dip_106 : decode cX1_dip 106 = .ok (.goto (-93), 3) := by decide +kernel
theorem dX1_dip_109 : decode cX1_dip 109 = .ok (.return_, 1) := by decide +kernel
theorem dX1_seeAll_0 : decode cX1_seeAll 0 = .ok (.iconst 0, 1) := by decide +kernel
theorem dX1_seeAll_1 : decode cX1_seeAll 1 = .ok (.istore_n 2, 1) := by decide +kernel
theorem dX1_seeAll_2 : decode cX1_seeAll 2 = .ok (.iload_n 2, 1) := by decide +kernel
theorem dX1_seeAll_3 : decode cX1_seeAll 3 = .ok (.aload_n 0, 1) := by decide +kernel
theorem dX1_seeAll_4 : decode cX1_seeAll 4 = .ok (.getfield 47, 3) := by decide +kernel
theorem dX1_seeAll_7 : decode cX1_seeAll 7 = .ok (.if_icmp .ge 83, 3) := by decide +kernel
theorem dX1_seeAll_10 : decode cX1_seeAll 10 = .ok (.aload_n 0, 1) := by decide +kernel
theorem dX1_seeAll_11 : decode cX1_seeAll 11 = .ok (.getfield 23, 3) := by decide +kernel
theorem dX1_seeAll_14 : decode cX1_seeAll 14 = .ok (.iload_n 2, 1) := by decide +kernel
theorem dX1_seeAll_15 : decode cX1_seeAll 15 = .ok (.aaload, 1) := by decide +kernel
theorem dX1_seeAll_16 : decode cX1_seeAll 16 = .ok (.iload_n 1, 1) := by decide +kernel
theorem dX1_seeAll_17 : decode cX1_seeAll 17 = .ok (.aload_n 0, 1) := by decide +kernel
theorem dX1_seeAll_18 : decode cX1_seeAll 18 = .ok (.iload_n 2, 1) := by decide +kernel
theorem dX1_seeAll_19 : decode cX1_seeAll 19 = .ok (.iload_n 1, 1) := by decide +kernel
theorem dX1_seeAll_20 : decode cX1_seeAll 20 = .ok (.invokevirtual 111, 3) := by decide +kernel
theorem dX1_seeAll_23 : decode cX1_seeAll 23 = .ok (.iastore, 1) := by decide +kernel
theorem dX1_seeAll_24 : decode cX1_seeAll 24 = .ok (.aload_n 0, 1) := by decide +kernel
theorem dX1_seeAll_25 : decode cX1_seeAll 25 = .ok (.getfield 26, 3) := by decide +kernel
theorem dX1_seeAll_28 : decode cX1_seeAll 28 = .ok (.iload_n 2, 1) := by decide +kernel
theorem dX1_seeAll_29 : decode cX1_seeAll 29 = .ok (.aaload, 1) := by decide +kernel
theorem dX1_seeAll_30 : decode cX1_seeAll 30 = .ok (.iload_n 1, 1) := by decide +kernel
theorem dX1_seeAll_31 : decode cX1_seeAll 31 = .ok (.aload_n 0, 1) := by decide +kernel
theorem dX1_seeAll_32 : decode cX1_seeAll 32 = .ok (.iload_n 2, 1) := by decide +kernel
theorem dX1_seeAll_33 : decode cX1_seeAll 33 = .ok (.iload_n 1, 1) := by decide +kernel
theorem dX1_seeAll_34 : decode cX1_seeAll 34 = .ok (.invokevirtual 114, 3) := by decide +kernel
theorem dX1_seeAll_37 : decode cX1_seeAll 37 = .ok (.iastore, 1) := by decide +kernel
theorem dX1_seeAll_38 : decode cX1_seeAll 38 = .ok (.aload_n 0, 1) := by decide +kernel
theorem dX1_seeAll_39 : decode cX1_seeAll 39 = .ok (.getfield 26, 3) := by decide +kernel
theorem dX1_seeAll_42 : decode cX1_seeAll 42 = .ok (.iload_n 2, 1) := by decide +kernel
theorem dX1_seeAll_43 : decode cX1_seeAll 43 = .ok (.aaload, 1) := by decide +kernel
theorem dX1_seeAll_44 : decode cX1_seeAll 44 = .ok (.iload_n 1, 1) := by decide +kernel
theorem dX1_seeAll_45 : decode cX1_seeAll 45 = .ok (.iaload, 1) := by decide +kernel
theorem dX1_seeAll_46 : decode cX1_seeAll 46 = .ok (.aload_n 0, 1) := by decide +kernel
theorem dX1_seeAll_47 : decode cX1_seeAll 47 = .ok (.getfield 9, 3) := by decide +kernel
theorem dX1_seeAll_50 : decode cX1_seeAll 50 = .ok (.iload_n 2, 1) := by decide +kernel
theorem dX1_seeAll_51 : decode cX1_seeAll 51 = .ok (.iaload, 1) := by decide +kernel
theorem dX1_seeAll_52 : decode cX1_seeAll 52 = .ok (.iconst (-1), 1) := by decide +kernel
theorem dX1_seeAll_53 : decode cX1_seeAll 53 = .ok (.ixor, 1) := by decide +kernel
theorem dX1_seeAll_54 : decode cX1_seeAll 54 = .ok (.iand, 1) := by decide +kernel
theorem dX1_seeAll_55 : decode cX1_seeAll 55 = .ok (.istore_n 3, 1) := by decide +kernel
theorem dX1_seeAll_56 : decode cX1_seeAll 56 = .ok (.aload_n 0, 1) := by decide +kernel
theorem dX1_seeAll_57 : decode cX1_seeAll 57 = .ok (.getfield 29, 3) := by decide +kernel
theorem dX1_seeAll_60 : decode cX1_seeAll 60 = .ok (.iload_n 2, 1) := by decide +kernel
theorem dX1_seeAll_61 : decode cX1_seeAll 61 = .ok (.aaload, 1) := by decide +kernel
theorem dX1_seeAll_62 : decode cX1_seeAll 62 = .ok (.iload_n 1, 1) := by decide +kernel
theorem dX1_seeAll_63 : decode cX1_seeAll 63 = .ok (.aload_n 0, 1) := by decide +kernel
theorem dX1_seeAll_64 : decode cX1_seeAll 64 = .ok (.getfield 65, 3) := by decide +kernel
theorem dX1_seeAll_67 : decode cX1_seeAll 67 = .ok (.iload_n 2, 1) := by decide +kernel
theorem dX1_seeAll_68 : decode cX1_seeAll 68 = .ok (.invokestatic 96, 3) := by decide +kernel
theorem dX1_seeAll_71 : decode cX1_seeAll 71 = .ok (.ifCond .eq 10, 3) := by decide +kernel
theorem dX1_seeAll_74 : decode cX1_seeAll 74 = .ok (.iload_n 3, 1) := by decide +kernel
theorem dX1_seeAll_75 : decode cX1_seeAll 75 = .ok (.invokestatic 117, 3) := by decide +kernel
theorem dX1_seeAll_78 : decode cX1_seeAll 78 = .ok (.goto 5, 3) := by decide +kernel
theorem dX1_seeAll_81 : decode cX1_seeAll 81 = .ok (.bipush (-2), 2) := by decide +kernel
theorem dX1_seeAll_83 : decode cX1_seeAll 83 = .ok (.iastore, 1) := by decide +kernel
theorem dX1_seeAll_84 : decode cX1_seeAll 84 = .ok (.iinc 2 1, 3) := by decide +kernel
theorem dX1_seeAll_87 : decode cX1_seeAll 87 = .ok (.goto (-85), 3) := by decide +kernel
theorem dX1_seeAll_90 : decode cX1_seeAll 90 = .ok (.return_, 1) := by decide +kernel
theorem dX1_look_0 : decode cX1_look 0 = .ok (.iconst 0, 1) := by decide +kernel
theorem dX1_look_1 : decode cX1_look 1 = .ok (.istore_n 3, 1) := by decide +kernel
theorem dX1_look_2 : decode cX1_look 2 = .ok (.iconst 0, 1) := by decide +kernel
theorem dX1_look_3 : decode cX1_look 3 = .ok (.istore 4, 2) := by decide +kernel
theorem dX1_look_5 : decode cX1_look 5 = .ok (.iload 4, 2) := by decide +kernel
theorem dX1_look_7 : decode cX1_look 7 = .ok (.aload_n 0, 1) := by decide +kernel
theorem dX1_look_8 : decode cX1_look 8 = .ok (.getfield 47, 3) := by decide +kernel
theorem dX1_look_11 : decode cX1_look 11 = .ok (.if_icmp .ge 46, 3) := by decide +kernel
theorem dX1_look_14 : decode cX1_look 14 = .ok (.iload_n 2, 1) := by decide +kernel
theorem dX1_look_15 : decode cX1_look 15 = .ok (.aload_n 0, 1) := by decide +kernel
theorem dX1_look_16 : decode cX1_look 16 = .ok (.getfield 17, 3) := by decide +kernel
theorem dX1_look_19 : decode cX1_look 19 = .ok (.iload_n 1, 1) := by decide +kernel
theorem dX1_look_20 : decode cX1_look 20 = .ok (.aaload, 1) := by decide +kernel
theorem dX1_look_21 : decode cX1_look 21 = .ok (.iload 4, 2) := by decide +kernel
theorem dX1_look_23 : decode cX1_look 23 = .ok (.iaload, 1) := by decide +kernel
theorem dX1_look_24 : decode cX1_look 24 = .ok (.isub, 1) := by decide +kernel
theorem dX1_look_25 : decode cX1_look 25 = .ok (.istore 5, 2) := by decide +kernel
theorem dX1_look_27 : decode cX1_look 27 = .ok (.iload 5, 2) := by decide +kernel
theorem dX1_look_29 : decode cX1_look 29 = .ok (.ifCond .lt 22, 3) := by decide +kernel
theorem dX1_look_32 : decode cX1_look 32 = .ok (.iload 5, 2) := by decide +kernel
theorem dX1_look_34 : decode cX1_look 34 = .ok (.iload_n 2, 1) := by decide +kernel
theorem dX1_look_35 : decode cX1_look 35 = .ok (.if_icmp .gt 16, 3) := by decide +kernel
theorem dX1_look_38 : decode cX1_look 38 = .ok (.iload_n 3, 1) := by decide +kernel
theorem dX1_look_39 : decode cX1_look 39 = .ok (.aload_n 0, 1) := by decide +kernel
theorem dX1_look_40 : decode cX1_look 40 = .ok (.getfield 20, 3) := by decide +kernel
theorem dX1_look_43 : decode cX1_look 43 = .ok (.iload 4, 2) := by decide +kernel
theorem dX1_look_45 : decode cX1_look 45 = .ok (.aaload, 1) := by decide +kernel
theorem dX1_look_46 : decode cX1_look 46 = .ok (.iload 5, 2) := by decide +kernel
theorem dX1_look_48 : decode cX1_look 48 = .ok (.iaload, 1) := by decide +kernel
theorem dX1_look_49 : decode cX1_look 49 = .ok (.ior, 1) := by decide +kernel
theorem dX1_look_50 : decode cX1_look 50 = .ok (.istore_n 3, 1) := by decide +kernel
theorem dX1_look_51 : decode cX1_look 51 = .ok (.iinc 4 1, 3) := by decide +kernel
theorem dX1_look_54 : decode cX1_look 54 = .ok (.goto (-49), 3) := by decide +kernel
theorem dX1_look_57 : decode cX1_look 57 = .ok (.aload_n 0, 1) := by decide +kernel
theorem dX1_look_58 : decode cX1_look 58 = .ok (.getfield 20, 3) := by decide +kernel
theorem dX1_look_61 : decode cX1_look 61 = .ok (.iload_n 1, 1) := by decide +kernel
theorem dX1_look_62 : decode cX1_look 62 = .ok (.aaload, 1) := by decide +kernel
theorem dX1_look_63 : decode cX1_look 63 = .ok (.iload_n 2, 1) := by decide +kernel
theorem dX1_look_64 : decode cX1_look 64 = .ok (.iaload, 1) := by decide +kernel
theorem dX1_look_65 : decode cX1_look 65 = .ok (.iload_n 3, 1) := by decide +kernel
theorem dX1_look_66 : decode cX1_look 66 = .ok (.aload_n 0, 1) := by decide +kernel
theorem dX1_look_67 : decode cX1_look 67 = .ok (.getfield 32, 3) := by decide +kernel
theorem dX1_look_70 : decode cX1_look 70 = .ok (.iload_n 1, 1) := by decide +kernel
theorem dX1_look_71 : decode cX1_look 71 = .ok (.aaload, 1) := by decide +kernel
theorem dX1_look_72 : decode cX1_look 72 = .ok (.iload_n 2, 1) := by decide +kernel
theorem dX1_look_73 : decode cX1_look 73 = .ok (.iaload, 1) := by decide +kernel
theorem dX1_look_74 : decode cX1_look 74 = .ok (.iconst (-1), 1) := by decide +kernel
theorem dX1_look_75 : decode cX1_look 75 = .ok (.ixor, 1) := by decide +kernel
theorem dX1_look_76 : decode cX1_look 76 = .ok (.iand, 1) := by decide +kernel
theorem dX1_look_77 : decode cX1_look 77 = .ok (.aload_n 0, 1) := by decide +kernel
theorem dX1_look_78 : decode cX1_look 78 = .ok (.getfield 55, 3) := by decide +kernel
theorem dX1_look_81 : decode cX1_look 81 = .ok (.iconst (-1), 1) := by decide +kernel
theorem dX1_look_82 : decode cX1_look 82 = .ok (.ixor, 1) := by decide +kernel
theorem dX1_look_83 : decode cX1_look 83 = .ok (.iand, 1) := by decide +kernel
theorem dX1_look_84 : decode cX1_look 84 = .ok (.ior, 1) := by decide +kernel
theorem dX1_look_85 : decode cX1_look 85 = .ok (.aload_n 0, 1) := by decide +kernel
theorem dX1_look_86 : decode cX1_look 86 = .ok (.getfield 52, 3) := by decide +kernel
theorem dX1_look_89 : decode cX1_look 89 = .ok (.ior, 1) := by decide +kernel
theorem dX1_look_90 : decode cX1_look 90 = .ok (.ireturn, 1) := by decide +kernel
theorem dX1_filtered_0 : decode cX1_filtered 0 = .ok (.iconst 0, 1) := by decide +kernel
theorem dX1_filtered_1 : decode cX1_filtered 1 = .ok (.istore_n 3, 1) := by decide +kernel
theorem dX1_filtered_2 : decode cX1_filtered 2 = .ok (.iload_n 2, 1) := by decide +kernel
theorem dX1_filtered_3 : decode cX1_filtered 3 = .ok (.aload_n 0, 1) := by decide +kernel
theorem dX1_filtered_4 : decode cX1_filtered 4 = .ok (.getfield 68, 3) := by decide +kernel
theorem dX1_filtered_7 : decode cX1_filtered 7 = .ok (.if_icmp .le 12, 3) := by decide +kernel
theorem dX1_filtered_10 : decode cX1_filtered 10 = .ok (.iload_n 2, 1) := by decide +kernel
theorem dX1_filtered_11 : decode cX1_filtered 11 = .ok (.aload_n 0, 1) := by decide +kernel
theorem dX1_filtered_12 : decode cX1_filtered 12 = .ok (.getfield 68, 3) := by decide +kernel
theorem dX1_filtered_15 : decode cX1_filtered 15 = .ok (.isub, 1) := by decide +kernel
theorem dX1_filtered_16 : decode cX1_filtered 16 = .ok (.goto 4, 3) := by decide +kernel
theorem dX1_filtered_19 : decode cX1_filtered 19 = .ok (.iconst 0, 1) := by decide +kernel
theorem dX1_filtered_20 : decode cX1_filtered 20 = .ok (.istore 4, 2) := by decide +kernel
theorem dX1_filtered_22 : decode cX1_filtered 22 = .ok (.iload 4, 2) := by decide +kernel
theorem dX1_filtered_24 : decode cX1_filtered 24 = .ok (.istore 5, 2) := by decide +kernel
theorem dX1_filtered_26 : decode cX1_filtered 26 = .ok (.iload 5, 2) := by decide +kernel
theorem dX1_filtered_28 : decode cX1_filtered 28 = .ok (.iload_n 2, 1) := by decide +kernel
theorem dX1_filtered_29 : decode cX1_filtered 29 = .ok (.if_icmp .gt 21, 3) := by decide +kernel
theorem dX1_filtered_32 : decode cX1_filtered 32 = .ok (.iload_n 3, 1) := by decide +kernel
theorem dX1_filtered_33 : decode cX1_filtered 33 = .ok (.aload_n 0, 1) := by decide +kernel
theorem dX1_filtered_34 : decode cX1_filtered 34 = .ok (.getfield 23, 3) := by decide +kernel
theorem dX1_filtered_37 : decode cX1_filtered 37 = .ok (.iload_n 1, 1) := by decide +kernel
theorem dX1_filtered_38 : decode cX1_filtered 38 = .ok (.aaload, 1) := by decide +kernel
theorem dX1_filtered_39 : decode cX1_filtered 39 = .ok (.iload 5, 2) := by decide +kernel
theorem dX1_filtered_41 : decode cX1_filtered 41 = .ok (.iaload, 1) := by decide +kernel
theorem dX1_filtered_42 : decode cX1_filtered 42 = .ok (.ior, 1) := by decide +kernel
theorem dX1_filtered_43 : decode cX1_filtered 43 = .ok (.istore_n 3, 1) := by decide +kernel
theorem dX1_filtered_44 : decode cX1_filtered 44 = .ok (.iinc 5 1, 3) := by decide +kernel
theorem dX1_filtered_47 : decode cX1_filtered 47 = .ok (.goto (-21), 3) := by decide +kernel
theorem dX1_filtered_50 : decode cX1_filtered 50 = .ok (.iload_n 3, 1) := by decide +kernel
theorem dX1_filtered_51 : decode cX1_filtered 51 = .ok (.ireturn, 1) := by decide +kernel
theorem dX1_highest_0 : decode cX1_highest 0 = .ok (.iconst 5, 1) := by decide +kernel
theorem dX1_highest_1 : decode cX1_highest 1 = .ok (.istore_n 1, 1) := by decide +kernel
theorem dX1_highest_2 : decode cX1_highest 2 = .ok (.iload_n 1, 1) := by decide +kernel
theorem dX1_highest_3 : decode cX1_highest 3 = .ok (.ifCond .lt 19, 3) := by decide +kernel
theorem dX1_highest_6 : decode cX1_highest 6 = .ok (.iload_n 0, 1) := by decide +kernel
theorem dX1_highest_7 : decode cX1_highest 7 = .ok (.iload_n 1, 1) := by decide +kernel
theorem dX1_highest_8 : decode cX1_highest 8 = .ok (.ishr, 1) := by decide +kernel
theorem dX1_highest_9 : decode cX1_highest 9 = .ok (.iconst 1, 1) := by decide +kernel
theorem dX1_highest_10 : decode cX1_highest 10 = .ok (.iand, 1) := by decide +kernel
theorem dX1_highest_11 : decode cX1_highest 11 = .ok (.ifCond .eq 5, 3) := by decide +kernel
theorem dX1_highest_14 : decode cX1_highest 14 = .ok (.iload_n 1, 1) := by decide +kernel
theorem dX1_highest_15 : decode cX1_highest 15 = .ok (.ireturn, 1) := by decide +kernel
theorem dX1_highest_16 : decode cX1_highest 16 = .ok (.iinc 1 (-1), 3) := by decide +kernel
theorem dX1_highest_19 : decode cX1_highest 19 = .ok (.goto (-17), 3) := by decide +kernel
theorem dX1_highest_22 : decode cX1_highest 22 = .ok (.bipush (-2), 2) := by decide +kernel
theorem dX1_highest_24 : decode cX1_highest 24 = .ok (.ireturn, 1) := by decide +kernel
theorem dX1_drivenAt_0 : decode cX1_drivenAt 0 = .ok (.iload_n 1, 1) := by decide +kernel
theorem dX1_drivenAt_1 : decode cX1_drivenAt 1 = .ok (.aload_n 0, 1) := by decide +kernel
theorem dX1_drivenAt_2 : decode cX1_drivenAt 2 = .ok (.getfield 47, 3) := by decide +kernel
theorem dX1_drivenAt_5 : decode cX1_drivenAt 5 = .ok (.invokestatic 120, 3) := by decide +kernel
theorem dX1_drivenAt_8 : decode cX1_drivenAt 8 = .ok (.ifCond .eq 18, 3) := by decide +kernel
theorem dX1_drivenAt_11 : decode cX1_drivenAt 11 = .ok (.aload_n 0, 1) := by decide +kernel
theorem dX1_drivenAt_12 : decode cX1_drivenAt 12 = .ok (.getfield 20, 3) := by decide +kernel
theorem dX1_drivenAt_15 : decode cX1_drivenAt 15 = .ok (.iload_n 1, 1) := by decide +kernel
theorem dX1_drivenAt_16 : decode cX1_drivenAt 16 = .ok (.aaload, 1) := by decide +kernel
theorem dX1_drivenAt_17 : decode cX1_drivenAt 17 = .ok (.aload_n 0, 1) := by decide +kernel
theorem dX1_drivenAt_18 : decode cX1_drivenAt 18 = .ok (.iload_n 2, 1) := by decide +kernel
theorem dX1_drivenAt_19 : decode cX1_drivenAt 19 = .ok (.invokevirtual 123, 3) := by decide +kernel
theorem dX1_drivenAt_22 : decode cX1_drivenAt 22 = .ok (.iaload, 1) := by decide +kernel
theorem dX1_drivenAt_23 : decode cX1_drivenAt 23 = .ok (.goto 4, 3) := by decide +kernel
theorem dX1_drivenAt_26 : decode cX1_drivenAt 26 = .ok (.iconst 0, 1) := by decide +kernel
theorem dX1_drivenAt_27 : decode cX1_drivenAt 27 = .ok (.ireturn, 1) := by decide +kernel
theorem dX1_sightAt_0 : decode cX1_sightAt 0 = .ok (.iload_n 1, 1) := by decide +kernel
theorem dX1_sightAt_1 : decode cX1_sightAt 1 = .ok (.aload_n 0, 1) := by decide +kernel
theorem dX1_sightAt_2 : decode cX1_sightAt 2 = .ok (.getfield 47, 3) := by decide +kernel
theorem dX1_sightAt_5 : decode cX1_sightAt 5 = .ok (.invokestatic 120, 3) := by decide +kernel
theorem dX1_sightAt_8 : decode cX1_sightAt 8 = .ok (.ifCond .eq 18, 3) := by decide +kernel
theorem dX1_sightAt_11 : decode cX1_sightAt 11 = .ok (.aload_n 0, 1) := by decide +kernel
theorem dX1_sightAt_12 : decode cX1_sightAt 12 = .ok (.getfield 23, 3) := by decide +kernel
theorem dX1_sightAt_15 : decode cX1_sightAt 15 = .ok (.iload_n 1, 1) := by decide +kernel
theorem dX1_sightAt_16 : decode cX1_sightAt 16 = .ok (.aaload, 1) := by decide +kernel
theorem dX1_sightAt_17 : decode cX1_sightAt 17 = .ok (.aload_n 0, 1) := by decide +kernel
theorem dX1_sightAt_18 : decode cX1_sightAt 18 = .ok (.iload_n 2, 1) := by decide +kernel
theorem dX1_sightAt_19 : decode cX1_sightAt 19 = .ok (.invokevirtual 123, 3) := by decide +kernel
theorem dX1_sightAt_22 : decode cX1_sightAt 22 = .ok (.iaload, 1) := by decide +kernel
theorem dX1_sightAt_23 : decode cX1_sightAt 23 = .ok (.goto 4, 3) := by decide +kernel
theorem dX1_sightAt_26 : decode cX1_sightAt 26 = .ok (.iconst 0, 1) := by decide +kernel
theorem dX1_sightAt_27 : decode cX1_sightAt 27 = .ok (.ireturn, 1) := by decide +kernel
theorem dX1_believedAt_0 : decode cX1_believedAt 0 = .ok (.iload_n 1, 1) := by decide +kernel
theorem dX1_believedAt_1 : decode cX1_believedAt 1 = .ok (.aload_n 0, 1) := by decide +kernel
theorem dX1_believedAt_2 : decode cX1_believedAt 2 = .ok (.getfield 47, 3) := by decide +kernel
theorem dX1_believedAt_5 : decode cX1_believedAt 5 = .ok (.invokestatic 120, 3) := by decide +kernel
theorem dX1_believedAt_8 : decode cX1_believedAt 8 = .ok (.ifCond .eq 18, 3) := by decide +kernel
theorem dX1_believedAt_11 : decode cX1_believedAt 11 = .ok (.aload_n 0, 1) := by decide +kernel
theorem dX1_believedAt_12 : decode cX1_believedAt 12 = .ok (.getfield 26, 3) := by decide +kernel
theorem dX1_believedAt_15 : decode cX1_believedAt 15 = .ok (.iload_n 1, 1) := by decide +kernel
theorem dX1_believedAt_16 : decode cX1_believedAt 16 = .ok (.aaload, 1) := by decide +kernel
theorem dX1_believedAt_17 : decode cX1_believedAt 17 = .ok (.aload_n 0, 1) := by decide +kernel
theorem dX1_believedAt_18 : decode cX1_believedAt 18 = .ok (.iload_n 2, 1) := by decide +kernel
theorem dX1_believedAt_19 : decode cX1_believedAt 19 = .ok (.invokevirtual 123, 3) := by decide +kernel
theorem dX1_believedAt_22 : decode cX1_believedAt 22 = .ok (.iaload, 1) := by decide +kernel
theorem dX1_believedAt_23 : decode cX1_believedAt 23 = .ok (.goto 4, 3) := by decide +kernel
theorem dX1_believedAt_26 : decode cX1_believedAt 26 = .ok (.iconst 0, 1) := by decide +kernel
theorem dX1_believedAt_27 : decode cX1_believedAt 27 = .ok (.ireturn, 1) := by decide +kernel
theorem dX1_yieldedAt_0 : decode cX1_yieldedAt 0 = .ok (.iload_n 1, 1) := by decide +kernel
theorem dX1_yieldedAt_1 : decode cX1_yieldedAt 1 = .ok (.aload_n 0, 1) := by decide +kernel
theorem dX1_yieldedAt_2 : decode cX1_yieldedAt 2 = .ok (.getfield 47, 3) := by decide +kernel
theorem dX1_yieldedAt_5 : decode cX1_yieldedAt 5 = .ok (.invokestatic 120, 3) := by decide +kernel
theorem dX1_yieldedAt_8 : decode cX1_yieldedAt 8 = .ok (.ifCond .eq 18, 3) := by decide +kernel
theorem dX1_yieldedAt_11 : decode cX1_yieldedAt 11 = .ok (.aload_n 0, 1) := by decide +kernel
theorem dX1_yieldedAt_12 : decode cX1_yieldedAt 12 = .ok (.getfield 29, 3) := by decide +kernel
theorem dX1_yieldedAt_15 : decode cX1_yieldedAt 15 = .ok (.iload_n 1, 1) := by decide +kernel
theorem dX1_yieldedAt_16 : decode cX1_yieldedAt 16 = .ok (.aaload, 1) := by decide +kernel
theorem dX1_yieldedAt_17 : decode cX1_yieldedAt 17 = .ok (.aload_n 0, 1) := by decide +kernel
theorem dX1_yieldedAt_18 : decode cX1_yieldedAt 18 = .ok (.iload_n 2, 1) := by decide +kernel
theorem dX1_yieldedAt_19 : decode cX1_yieldedAt 19 = .ok (.invokevirtual 123, 3) := by decide +kernel
theorem dX1_yieldedAt_22 : decode cX1_yieldedAt 22 = .ok (.iaload, 1) := by decide +kernel
theorem dX1_yieldedAt_23 : decode cX1_yieldedAt 23 = .ok (.goto 5, 3) := by decide +kernel
theorem dX1_yieldedAt_26 : decode cX1_yieldedAt 26 = .ok (.bipush (-2), 2) := by decide +kernel
theorem dX1_yieldedAt_28 : decode cX1_yieldedAt 28 = .ok (.ireturn, 1) := by decide +kernel
theorem dX1_playedTick_0 : decode cX1_playedTick 0 = .ok (.iload_n 1, 1) := by decide +kernel
theorem dX1_playedTick_1 : decode cX1_playedTick 1 = .ok (.ifCond .ge 7, 3) := by decide +kernel
theorem dX1_playedTick_4 : decode cX1_playedTick 4 = .ok (.iconst 0, 1) := by decide +kernel
theorem dX1_playedTick_5 : decode cX1_playedTick 5 = .ok (.goto 19, 3) := by decide +kernel
theorem dX1_playedTick_8 : decode cX1_playedTick 8 = .ok (.iload_n 1, 1) := by decide +kernel
theorem dX1_playedTick_9 : decode cX1_playedTick 9 = .ok (.aload_n 0, 1) := by decide +kernel
theorem dX1_playedTick_10 : decode cX1_playedTick 10 = .ok (.getfield 77, 3) := by decide +kernel
theorem dX1_playedTick_13 : decode cX1_playedTick 13 = .ok (.if_icmp .le 10, 3) := by decide +kernel
theorem dX1_playedTick_16 : decode cX1_playedTick 16 = .ok (.aload_n 0, 1) := by decide +kernel
theorem dX1_playedTick_17 : decode cX1_playedTick 17 = .ok (.getfield 77, 3) := by decide +kernel
theorem dX1_playedTick_20 : decode cX1_playedTick 20 = .ok (.goto 4, 3) := by decide +kernel
theorem dX1_playedTick_23 : decode cX1_playedTick 23 = .ok (.iload_n 1, 1) := by decide +kernel
theorem dX1_playedTick_24 : decode cX1_playedTick 24 = .ok (.ireturn, 1) := by decide +kernel
theorem dX1_winnersAt_0 : decode cX1_winnersAt 0 = .ok (.iconst 0, 1) := by decide +kernel
theorem dX1_winnersAt_1 : decode cX1_winnersAt 1 = .ok (.istore_n 2, 1) := by decide +kernel
theorem dX1_winnersAt_2 : decode cX1_winnersAt 2 = .ok (.iconst 0, 1) := by decide +kernel
theorem dX1_winnersAt_3 : decode cX1_winnersAt 3 = .ok (.istore_n 3, 1) := by decide +kernel
theorem dX1_winnersAt_4 : decode cX1_winnersAt 4 = .ok (.iload_n 3, 1) := by decide +kernel
theorem dX1_winnersAt_5 : decode cX1_winnersAt 5 = .ok (.aload_n 0, 1) := by decide +kernel
theorem dX1_winnersAt_6 : decode cX1_winnersAt 6 = .ok (.getfield 47, 3) := by decide +kernel
theorem dX1_winnersAt_9 : decode cX1_winnersAt 9 = .ok (.if_icmp .ge 37, 3) := by decide +kernel
theorem dX1_winnersAt_12 : decode cX1_winnersAt 12 = .ok (.aload_n 0, 1) := by decide +kernel
theorem dX1_winnersAt_13 : decode cX1_winnersAt 13 = .ok (.getfield 65, 3) := by decide +kernel
theorem dX1_winnersAt_16 : decode cX1_winnersAt 16 = .ok (.iload_n 3, 1) := by decide +kernel
theorem dX1_winnersAt_17 : decode cX1_winnersAt 17 = .ok (.invokestatic 96, 3) := by decide +kernel
theorem dX1_winnersAt_20 : decode cX1_winnersAt 20 = .ok (.ifCond .eq 20, 3) := by decide +kernel
theorem dX1_winnersAt_23 : decode cX1_winnersAt 23 = .ok (.aload_n 0, 1) := by decide +kernel
theorem dX1_winnersAt_24 : decode cX1_winnersAt 24 = .ok (.iload_n 3, 1) := by decide +kernel
theorem dX1_winnersAt_25 : decode cX1_winnersAt 25 = .ok (.iload_n 1, 1) := by decide +kernel
theorem dX1_winnersAt_26 : decode cX1_winnersAt 26 = .ok (.invokevirtual 126, 3) := by decide +kernel
theorem dX1_winnersAt_29 : decode cX1_winnersAt 29 = .ok (.bipush (-2), 2) := by decide +kernel
theorem dX1_winnersAt_31 : decode cX1_winnersAt 31 = .ok (.if_icmp .ne 9, 3) := by decide +kernel
theorem dX1_winnersAt_34 : decode cX1_winnersAt 34 = .ok (.iload_n 2, 1) := by decide +kernel
theorem dX1_winnersAt_35 : decode cX1_winnersAt 35 = .ok (.iconst 1, 1) := by decide +kernel
theorem dX1_winnersAt_36 : decode cX1_winnersAt 36 = .ok (.iload_n 3, 1) := by decide +kernel
theorem dX1_winnersAt_37 : decode cX1_winnersAt 37 = .ok (.ishl, 1) := by decide +kernel
theorem dX1_winnersAt_38 : decode cX1_winnersAt 38 = .ok (.ior, 1) := by decide +kernel
theorem dX1_winnersAt_39 : decode cX1_winnersAt 39 = .ok (.istore_n 2, 1) := by decide +kernel
theorem dX1_winnersAt_40 : decode cX1_winnersAt 40 = .ok (.iinc 3 1, 3) := by decide +kernel
theorem dX1_winnersAt_43 : decode cX1_winnersAt 43 = .ok (.goto (-39), 3) := by decide +kernel
theorem dX1_winnersAt_46 : decode cX1_winnersAt 46 = .ok (.iload_n 2, 1) := by decide +kernel
theorem dX1_winnersAt_47 : decode cX1_winnersAt 47 = .ok (.ireturn, 1) := by decide +kernel
theorem dX1_isEvenAt_0 : decode cX1_isEvenAt 0 = .ok (.iconst 0, 1) := by decide +kernel
theorem dX1_isEvenAt_1 : decode cX1_isEvenAt 1 = .ok (.istore_n 2, 1) := by decide +kernel
theorem dX1_isEvenAt_2 : decode cX1_isEvenAt 2 = .ok (.iload_n 2, 1) := by decide +kernel
theorem dX1_isEvenAt_3 : decode cX1_isEvenAt 3 = .ok (.aload_n 0, 1) := by decide +kernel
theorem dX1_isEvenAt_4 : decode cX1_isEvenAt 4 = .ok (.getfield 47, 3) := by decide +kernel
theorem dX1_isEvenAt_7 : decode cX1_isEvenAt 7 = .ok (.if_icmp .ge 25, 3) := by decide +kernel
theorem dX1_isEvenAt_10 : decode cX1_isEvenAt 10 = .ok (.aload_n 0, 1) := by decide +kernel
theorem dX1_isEvenAt_11 : decode cX1_isEvenAt 11 = .ok (.iload_n 2, 1) := by decide +kernel
theorem dX1_isEvenAt_12 : decode cX1_isEvenAt 12 = .ok (.iload_n 1, 1) := by decide +kernel
theorem dX1_isEvenAt_13 : decode cX1_isEvenAt 13 = .ok (.invokevirtual 129, 3) := by decide +kernel
theorem dX1_isEvenAt_16 : decode cX1_isEvenAt 16 = .ok (.invokestatic 132, 3) := by decide +kernel
theorem dX1_isEvenAt_19 : decode cX1_isEvenAt 19 = .ok (.iconst 2, 1) := by decide +kernel
theorem dX1_isEvenAt_20 : decode cX1_isEvenAt 20 = .ok (.irem, 1) := by decide +kernel
theorem dX1_isEvenAt_21 : decode cX1_isEvenAt 21 = .ok (.ifCond .ne 5, 3) := by decide +kernel
theorem dX1_isEvenAt_24 : decode cX1_isEvenAt 24 = .ok (.iconst 1, 1) := by decide +kernel
theorem dX1_isEvenAt_25 : decode cX1_isEvenAt 25 = .ok (.ireturn, 1) := by decide +kernel
theorem dX1_isEvenAt_26 : decode cX1_isEvenAt 26 = .ok (.iinc 2 1, 3) := by decide +kernel
theorem dX1_isEvenAt_29 : decode cX1_isEvenAt 29 = .ok (.goto (-27), 3) := by decide +kernel
theorem dX1_isEvenAt_32 : decode cX1_isEvenAt 32 = .ok (.iconst 0, 1) := by decide +kernel
theorem dX1_isEvenAt_33 : decode cX1_isEvenAt 33 = .ok (.ireturn, 1) := by decide +kernel
theorem dX1_greatestOf_0 : decode cX1_greatestOf 0 = .ok (.iconst 0, 1) := by decide +kernel
theorem dX1_greatestOf_1 : decode cX1_greatestOf 1 = .ok (.istore_n 2, 1) := by decide +kernel
theorem dX1_greatestOf_2 : decode cX1_greatestOf 2 = .ok (.iconst 0, 1) := by decide +kernel
theorem dX1_greatestOf_3 : decode cX1_greatestOf 3 = .ok (.istore_n 3, 1) := by decide +kernel
theorem dX1_greatestOf_4 : decode cX1_greatestOf 4 = .ok (.iconst 0, 1) := by decide +kernel
theorem dX1_greatestOf_5 : decode cX1_greatestOf 5 = .ok (.istore 4, 2) := by decide +kernel
theorem dX1_greatestOf_7 : decode cX1_greatestOf 7 = .ok (.iload 4, 2) := by decide +kernel
theorem dX1_greatestOf_9 : decode cX1_greatestOf 9 = .ok (.aload_n 0, 1) := by decide +kernel
theorem dX1_greatestOf_10 : decode cX1_greatestOf 10 = .ok (.getfield 47, 3) := by decide +kernel
theorem dX1_greatestOf_13 : decode cX1_greatestOf 13 = .ok (.if_icmp .ge 62, 3) := by decide +kernel
theorem dX1_greatestOf_16 : decode cX1_greatestOf 16 = .ok (.iload_n 1, 1) := by decide +kernel
theorem dX1_greatestOf_17 : decode cX1_greatestOf 17 = .ok (.iload 4, 2) := by decide +kernel
theorem dX1_greatestOf_19 : decode cX1_greatestOf 19 = .ok (.invokestatic 96, 3) := by decide +kernel
theorem dX1_greatestOf_22 : decode cX1_greatestOf 22 = .ok (.ifCond .eq 47, 3) := by decide +kernel
theorem dX1_greatestOf_25 : decode cX1_greatestOf 25 = .ok (.aload_n 0, 1) := by decide +kernel
theorem dX1_greatestOf_26 : decode cX1_greatestOf 26 = .ok (.getfield 9, 3) := by decide +kernel
theorem dX1_greatestOf_29 : decode cX1_greatestOf 29 = .ok (.iload 4, 2) := by decide +kernel
theorem dX1_greatestOf_31 : decode cX1_greatestOf 31 = .ok (.iaload, 1) := by decide +kernel
theorem dX1_greatestOf_32 : decode cX1_greatestOf 32 = .ok (.iload_n 2, 1) := by decide +kernel
theorem dX1_greatestOf_33 : decode cX1_greatestOf 33 = .ok (.if_icmp .lt 36, 3) := by decide +kernel
theorem dX1_greatestOf_36 : decode cX1_greatestOf 36 = .ok (.aload_n 0, 1) := by decide +kernel
theorem dX1_greatestOf_37 : decode cX1_greatestOf 37 = .ok (.getfield 9, 3) := by decide +kernel
theorem dX1_greatestOf_40 : decode cX1_greatestOf 40 = .ok (.iload 4, 2) := by decide +kernel
theorem dX1_greatestOf_42 : decode cX1_greatestOf 42 = .ok (.iaload, 1) := by decide +kernel
theorem dX1_greatestOf_43 : decode cX1_greatestOf 43 = .ok (.iload_n 2, 1) := by decide +kernel
theorem dX1_greatestOf_44 : decode cX1_greatestOf 44 = .ok (.if_icmp .le 10, 3) := by decide +kernel
theorem dX1_greatestOf_47 : decode cX1_greatestOf 47 = .ok (.iconst 1, 1) := by decide +kernel
theorem dX1_greatestOf_48 : decode cX1_greatestOf 48 = .ok (.iload 4, 2) := by decide +kernel
theorem dX1_greatestOf_50 : decode cX1_greatestOf 50 = .ok (.ishl, 1) := by decide +kernel
theorem dX1_greatestOf_51 : decode cX1_greatestOf 51 = .ok (.goto 9, 3) := by decide +kernel
theorem dX1_greatestOf_54 : decode cX1_greatestOf 54 = .ok (.iload_n 3, 1) := by decide +kernel
theorem dX1_greatestOf_55 : decode cX1_greatestOf 55 = .ok (.iconst 1, 1) := by decide +kernel
theorem dX1_greatestOf_56 : decode cX1_greatestOf 56 = .ok (.iload 4, 2) := by decide +kernel
theorem dX1_greatestOf_58 : decode cX1_greatestOf 58 = .ok (.ishl, 1) := by decide +kernel
theorem dX1_greatestOf_59 : decode cX1_greatestOf 59 = .ok (.ior, 1) := by decide +kernel
theorem dX1_greatestOf_60 : decode cX1_greatestOf 60 = .ok (.istore_n 3, 1) := by decide +kernel
theorem dX1_greatestOf_61 : decode cX1_greatestOf 61 = .ok (.aload_n 0, 1) := by decide +kernel
theorem dX1_greatestOf_62 : decode cX1_greatestOf 62 = .ok (.getfield 9, 3) := by decide +kernel
theorem dX1_greatestOf_65 : decode cX1_greatestOf 65 = .ok (.iload 4, 2) := by decide +kernel
theorem dX1_greatestOf_67 : decode cX1_greatestOf 67 = .ok (.iaload, 1) := by decide +kernel
theorem dX1_greatestOf_68 : decode cX1_greatestOf 68 = .ok (.istore_n 2, 1) := by decide +kernel
theorem dX1_greatestOf_69 : decode cX1_greatestOf 69 = .ok (.iinc 4 1, 3) := by decide +kernel
theorem dX1_greatestOf_72 : decode cX1_greatestOf 72 = .ok (.goto (-65), 3) := by decide +kernel
theorem dX1_greatestOf_75 : decode cX1_greatestOf 75 = .ok (.iload_n 3, 1) := by decide +kernel
theorem dX1_greatestOf_76 : decode cX1_greatestOf 76 = .ok (.ireturn, 1) := by decide +kernel
theorem dX1_sureFrom_0 : decode cX1_sureFrom 0 = .ok (.aload_n 0, 1) := by decide +kernel
theorem dX1_sureFrom_1 : decode cX1_sureFrom 1 = .ok (.aload_n 0, 1) := by decide +kernel
theorem dX1_sureFrom_2 : decode cX1_sureFrom 2 = .ok (.getfield 65, 3) := by decide +kernel
theorem dX1_sureFrom_5 : decode cX1_sureFrom 5 = .ok (.invokevirtual 137, 3) := by decide +kernel
theorem dX1_sureFrom_8 : decode cX1_sureFrom 8 = .ok (.istore_n 1, 1) := by decide +kernel
theorem dX1_sureFrom_9 : decode cX1_sureFrom 9 = .ok (.bipush (-2), 2) := by decide +kernel
theorem dX1_sureFrom_11 : decode cX1_sureFrom 11 = .ok (.istore_n 2, 1) := by decide +kernel
theorem dX1_sureFrom_12 : decode cX1_sureFrom 12 = .ok (.aload_n 0, 1) := by decide +kernel
theorem dX1_sureFrom_13 : decode cX1_sureFrom 13 = .ok (.getfield 77, 3) := by decide +kernel
theorem dX1_sureFrom_16 : decode cX1_sureFrom 16 = .ok (.istore_n 3, 1) := by decide +kernel
theorem dX1_sureFrom_17 : decode cX1_sureFrom 17 = .ok (.iload_n 3, 1) := by decide +kernel
theorem dX1_sureFrom_18 : decode cX1_sureFrom 18 = .ok (.ifCond .lt 20, 3) := by decide +kernel
theorem dX1_sureFrom_21 : decode cX1_sureFrom 21 = .ok (.aload_n 0, 1) := by decide +kernel
theorem dX1_sureFrom_22 : decode cX1_sureFrom 22 = .ok (.iload_n 3, 1) := by decide +kernel
theorem dX1_sureFrom_23 : decode cX1_sureFrom 23 = .ok (.invokevirtual 140, 3) := by decide +kernel
theorem dX1_sureFrom_26 : decode cX1_sureFrom 26 = .ok (.iload_n 1, 1) := by decide +kernel
theorem dX1_sureFrom_27 : decode cX1_sureFrom 27 = .ok (.if_icmp .ne 11, 3) := by decide +kernel
theorem dX1_sureFrom_30 : decode cX1_sureFrom 30 = .ok (.iload_n 3, 1) := by decide +kernel
theorem dX1_sureFrom_31 : decode cX1_sureFrom 31 = .ok (.istore_n 2, 1) := by decide +kernel
theorem dX1_sureFrom_32 : decode cX1_sureFrom 32 = .ok (.iinc 3 (-1), 3) := by decide +kernel
theorem dX1_sureFrom_35 : decode cX1_sureFrom 35 = .ok (.goto (-18), 3) := by decide +kernel
theorem dX1_sureFrom_38 : decode cX1_sureFrom 38 = .ok (.iload_n 2, 1) := by decide +kernel
theorem dX1_sureFrom_39 : decode cX1_sureFrom 39 = .ok (.ireturn, 1) := by decide +kernel
theorem dX1_edgesOf_0 : decode cX1_edgesOf 0 = .ok (.iconst 0, 1) := by decide +kernel
theorem dX1_edgesOf_1 : decode cX1_edgesOf 1 = .ok (.istore_n 3, 1) := by decide +kernel
theorem dX1_edgesOf_2 : decode cX1_edgesOf 2 = .ok (.iconst 1, 1) := by decide +kernel
theorem dX1_edgesOf_3 : decode cX1_edgesOf 3 = .ok (.istore 4, 2) := by decide +kernel
theorem dX1_edgesOf_5 : decode cX1_edgesOf 5 = .ok (.iload 4, 2) := by decide +kernel
theorem dX1_edgesOf_7 : decode cX1_edgesOf 7 = .ok (.aload_n 0, 1) := by decide +kernel
theorem dX1_edgesOf_8 : decode cX1_edgesOf 8 = .ok (.getfield 77, 3) := by decide +kernel
theorem dX1_edgesOf_11 : decode cX1_edgesOf 11 = .ok (.if_icmp .gt 36, 3) := by decide +kernel
theorem dX1_edgesOf_14 : decode cX1_edgesOf 14 = .ok (.aload_n 0, 1) := by decide +kernel
theorem dX1_edgesOf_15 : decode cX1_edgesOf 15 = .ok (.iload_n 1, 1) := by decide +kernel
theorem dX1_edgesOf_16 : decode cX1_edgesOf 16 = .ok (.iload 4, 2) := by decide +kernel
theorem dX1_edgesOf_18 : decode cX1_edgesOf 18 = .ok (.invokevirtual 143, 3) := by decide +kernel
theorem dX1_edgesOf_21 : decode cX1_edgesOf 21 = .ok (.aload_n 0, 1) := by decide +kernel
theorem dX1_edgesOf_22 : decode cX1_edgesOf 22 = .ok (.iload_n 1, 1) := by decide +kernel
theorem dX1_edgesOf_23 : decode cX1_edgesOf 23 = .ok (.iload 4, 2) := by decide +kernel
theorem dX1_edgesOf_25 : decode cX1_edgesOf 25 = .ok (.iconst 1, 1) := by decide +kernel
theorem dX1_edgesOf_26 : decode cX1_edgesOf 26 = .ok (.isub, 1) := by decide +kernel
theorem dX1_edgesOf_27 : decode cX1_edgesOf 27 = .ok (.invokevirtual 143, 3) := by decide +kernel
theorem dX1_edgesOf_30 : decode cX1_edgesOf 30 = .ok (.ixor, 1) := by decide +kernel
theorem dX1_edgesOf_31 : decode cX1_edgesOf 31 = .ok (.iload_n 2, 1) := by decide +kernel
theorem dX1_edgesOf_32 : decode cX1_edgesOf 32 = .ok (.invokestatic 96, 3) := by decide +kernel
theorem dX1_edgesOf_35 : decode cX1_edgesOf 35 = .ok (.ifCond .eq 6, 3) := by decide +kernel
theorem dX1_edgesOf_38 : decode cX1_edgesOf 38 = .ok (.iinc 3 1, 3) := by decide +kernel
theorem dX1_edgesOf_41 : decode cX1_edgesOf 41 = .ok (.iinc 4 1, 3) := by decide +kernel
theorem dX1_edgesOf_44 : decode cX1_edgesOf 44 = .ok (.goto (-39), 3) := by decide +kernel
theorem dX1_edgesOf_47 : decode cX1_edgesOf 47 = .ok (.iload_n 3, 1) := by decide +kernel
theorem dX1_edgesOf_48 : decode cX1_edgesOf 48 = .ok (.ireturn, 1) := by decide +kernel
theorem dX2_init_0 : decode cX2_init 0 = .ok (.aload_n 0, 1) := by decide +kernel
theorem dX2_init_1 : decode cX2_init 1 = .ok (.invokespecial 3, 3) := by decide +kernel
theorem dX2_init_4 : decode cX2_init 4 = .ok (.aload_n 0, 1) := by decide +kernel
theorem dX2_init_5 : decode cX2_init 5 = .ok (.bipush 6, 2) := by decide +kernel
theorem dX2_init_7 : decode cX2_init 7 = .ok (.newarray .int, 2) := by decide +kernel
theorem dX2_init_9 : decode cX2_init 9 = .ok (.putfield 9, 3) := by decide +kernel
theorem dX2_init_12 : decode cX2_init 12 = .ok (.aload_n 0, 1) := by decide +kernel
theorem dX2_init_13 : decode cX2_init 13 = .ok (.bipush 6, 2) := by decide +kernel
theorem dX2_init_15 : decode cX2_init 15 = .ok (.newarray .int, 2) := by decide +kernel
theorem dX2_init_17 : decode cX2_init 17 = .ok (.putfield 15, 3) := by decide +kernel
theorem dX2_init_20 : decode cX2_init 20 = .ok (.aload_n 0, 1) := by decide +kernel
theorem dX2_init_21 : decode cX2_init 21 = .ok (.bipush 6, 2) := by decide +kernel
theorem dX2_init_23 : decode cX2_init 23 = .ok (.newarray .int, 2) := by decide +kernel
theorem dX2_init_25 : decode cX2_init 25 = .ok (.putfield 18, 3) := by decide +kernel
theorem dX2_init_28 : decode cX2_init 28 = .ok (.aload_n 0, 1) := by decide +kernel
theorem dX2_init_29 : decode cX2_init 29 = .ok (.bipush 6, 2) := by decide +kernel
theorem dX2_init_31 : decode cX2_init 31 = .ok (.newarray .int, 2) := by decide +kernel
theorem dX2_init_33 : decode cX2_init 33 = .ok (.putfield 21, 3) := by decide +kernel
theorem dX2_init_36 : decode cX2_init 36 = .ok (.aload_n 0, 1) := by decide +kernel
theorem dX2_init_37 : decode cX2_init 37 = .ok (.bipush 6, 2) := by decide +kernel
theorem dX2_init_39 : decode cX2_init 39 = .ok (.newarray .int, 2) := by decide +kernel
theorem dX2_init_41 : decode cX2_init 41 = .ok (.putfield 24, 3) := by decide +kernel
theorem dX2_init_44 : decode cX2_init 44 = .ok (.aload_n 0, 1) := by decide +kernel
theorem dX2_init_45 : decode cX2_init 45 = .ok (.bipush 12, 2) := by decide +kernel
theorem dX2_init_47 : decode cX2_init 47 = .ok (.newarray .int, 2) := by decide +kernel
theorem dX2_init_49 : decode cX2_init 49 = .ok (.putfield 27, 3) := by decide +kernel
theorem dX2_init_52 : decode cX2_init 52 = .ok (.aload_n 0, 1) := by decide +kernel
theorem dX2_init_53 : decode cX2_init 53 = .ok (.bipush 12, 2) := by decide +kernel
theorem dX2_init_55 : decode cX2_init 55 = .ok (.newarray .int, 2) := by decide +kernel
theorem dX2_init_57 : decode cX2_init 57 = .ok (.putfield 30, 3) := by decide +kernel
theorem dX2_init_60 : decode cX2_init 60 = .ok (.aload_n 0, 1) := by decide +kernel
theorem dX2_init_61 : decode cX2_init 61 = .ok (.bipush 12, 2) := by decide +kernel
theorem dX2_init_63 : decode cX2_init 63 = .ok (.newarray .int, 2) := by decide +kernel
theorem dX2_init_65 : decode cX2_init 65 = .ok (.putfield 33, 3) := by decide +kernel
theorem dX2_init_68 : decode cX2_init 68 = .ok (.return_, 1) := by decide +kernel
theorem dX2_clear_0 : decode cX2_clear 0 = .ok (.aload_n 0, 1) := by decide +kernel
theorem dX2_clear_1 : decode cX2_clear 1 = .ok (.iconst 1, 1) := by decide +kernel
theorem dX2_clear_2 : decode cX2_clear 2 = .ok (.putfield 36, 3) := by decide +kernel
theorem dX2_clear_5 : decode cX2_clear 5 = .ok (.aload_n 0, 1) := by decide +kernel
theorem dX2_clear_6 : decode cX2_clear 6 = .ok (.iconst 0, 1) := by decide +kernel
theorem dX2_clear_7 : decode cX2_clear 7 = .ok (.putfield 40, 3) := by decide +kernel
theorem dX2_clear_10 : decode cX2_clear 10 = .ok (.aload_n 0, 1) := by decide +kernel
theorem dX2_clear_11 : decode cX2_clear 11 = .ok (.iconst 1, 1) := by decide +kernel
theorem dX2_clear_12 : decode cX2_clear 12 = .ok (.putfield 43, 3) := by decide +kernel
theorem dX2_clear_15 : decode cX2_clear 15 = .ok (.aload_n 0, 1) := by decide +kernel
theorem dX2_clear_16 : decode cX2_clear 16 = .ok (.iconst 0, 1) := by decide +kernel
theorem dX2_clear_17 : decode cX2_clear 17 = .ok (.putfield 46, 3) := by decide +kernel
theorem dX2_clear_20 : decode cX2_clear 20 = .ok (.aload_n 0, 1) := by decide +kernel
theorem dX2_clear_21 : decode cX2_clear 21 = .ok (.iconst 0, 1) := by decide +kernel
theorem dX2_clear_22 : decode cX2_clear 22 = .ok (.putfield 49, 3) := by decide +kernel
theorem dX2_clear_25 : decode cX2_clear 25 = .ok (.aload_n 0, 1) := by decide +kernel
theorem dX2_clear_26 : decode cX2_clear 26 = .ok (.iconst 0, 1) := by decide +kernel
theorem dX2_clear_27 : decode cX2_clear 27 = .ok (.putfield 52, 3) := by decide +kernel
theorem dX2_clear_30 : decode cX2_clear 30 = .ok (.return_, 1) := by decide +kernel
theorem dX2_addBoard_0 : decode cX2_addBoard 0 = .ok (.aload_n 0, 1) := by decide +kernel
theorem dX2_addBoard_1 : decode cX2_addBoard 1 = .ok (.getfield 46, 3) := by decide +kernel
theorem dX2_addBoard_4 : decode cX2_addBoard 4 = .ok (.bipush 6, 2) := by decide +kernel
theorem dX2_addBoard_6 : decode cX2_addBoard 6 = .ok (.if_icmp .ge 69, 3) := by decide +kernel
theorem dX2_addBoard_9 : decode cX2_addBoard 9 = .ok (.aload_n 0, 1) := by decide +kernel
theorem dX2_addBoard_10 : decode cX2_addBoard 10 = .ok (.getfield 9, 3) := by decide +kernel
theorem dX2_addBoard_13 : decode cX2_addBoard 13 = .ok (.aload_n 0, 1) := by decide +kernel
theorem dX2_addBoard_14 : decode cX2_addBoard 14 = .ok (.getfield 46, 3) := by decide +kernel
theorem dX2_addBoard_17 : decode cX2_addBoard 17 = .ok (.iload_n 1, 1) := by decide +kernel
theorem dX2_addBoard_18 : decode cX2_addBoard 18 = .ok (.iastore, 1) := by decide +kernel
theorem dX2_addBoard_19 : decode cX2_addBoard 19 = .ok (.aload_n 0, 1) := by decide +kernel
theorem dX2_addBoard_20 : decode cX2_addBoard 20 = .ok (.getfield 15, 3) := by decide +kernel
theorem dX2_addBoard_23 : decode cX2_addBoard 23 = .ok (.aload_n 0, 1) := by decide +kernel
theorem dX2_addBoard_24 : decode cX2_addBoard 24 = .ok (.getfield 46, 3) := by decide +kernel
theorem dX2_addBoard_27 : decode cX2_addBoard 27 = .ok (.iload_n 2, 1) := by decide +kernel
theorem dX2_addBoard_28 : decode cX2_addBoard 28 = .ok (.iastore, 1) := by decide +kernel
theorem dX2_addBoard_29 : decode cX2_addBoard 29 = .ok (.aload_n 0, 1) := by decide +kernel
theorem dX2_addBoard_30 : decode cX2_addBoard 30 = .ok (.getfield 18, 3) := by decide +kernel
theorem dX2_addBoard_33 : decode cX2_addBoard 33 = .ok (.aload_n 0, 1) := by decide +kernel
theorem dX2_addBoard_34 : decode cX2_addBoard 34 = .ok (.getfield 46, 3) := by decide +kernel
theorem dX2_addBoard_37 : decode cX2_addBoard 37 = .ok (.iload_n 3, 1) := by decide +kernel
theorem dX2_addBoard_38 : decode cX2_addBoard 38 = .ok (.iastore, 1) := by decide +kernel
theorem dX2_addBoard_39 : decode cX2_addBoard 39 = .ok (.aload_n 0, 1) := by decide +kernel
theorem dX2_addBoard_40 : decode cX2_addBoard 40 = .ok (.getfield 21, 3) := by decide +kernel
theorem dX2_addBoard_43 : decode cX2_addBoard 43 = .ok (.aload_n 0, 1) := by decide +kernel
theorem dX2_addBoard_44 : decode cX2_addBoard 44 = .ok (.getfield 46, 3) := by decide +kernel
theorem dX2_addBoard_47 : decode cX2_addBoard 47 = .ok (.iload 4, 2) := by decide +kernel
theorem dX2_addBoard_49 : decode cX2_addBoard 49 = .ok (.iastore, 1) := by decide +kernel
theorem dX2_addBoard_50 : decode cX2_addBoard 50 = .ok (.aload_n 0, 1) := by decide +kernel
theorem dX2_addBoard_51 : decode cX2_addBoard 51 = .ok (.getfield 24, 3) := by decide +kernel
theorem dX2_addBoard_54 : decode cX2_addBoard 54 = .ok (.aload_n 0, 1) := by decide +kernel
theorem dX2_addBoard_55 : decode cX2_addBoard 55 = .ok (.getfield 46, 3) := by decide +kernel
theorem dX2_addBoard_58 : decode cX2_addBoard 58 = .ok (.iload_n 3, 1) := by decide +kernel
theorem dX2_addBoard_59 : decode cX2_addBoard 59 = .ok (.iconst 1, 1) := by decide +kernel
theorem dX2_addBoard_60 : decode cX2_addBoard 60 = .ok (.ishl, 1) := by decide +kernel
theorem dX2_addBoard_61 : decode cX2_addBoard 61 = .ok (.invokestatic 56, 3) := by decide +kernel
theorem dX2_addBoard_64 : decode cX2_addBoard 64 = .ok (.iastore, 1) := by decide +kernel
theorem dX2_addBoard_65 : decode cX2_addBoard 65 = .ok (.aload_n 0, 1) := by decide +kernel
theorem dX2_addBoard_66 : decode cX2_addBoard 66 = .ok (.dup, 1) := by decide +kernel
theorem dX2_addBoard_67 : decode cX2_addBoard 67 = .ok (.getfield 46, 3) := by decide +kernel
theorem dX2_addBoard_70 : decode cX2_addBoard 70 = .ok (.iconst 1, 1) := by decide +kernel
theorem dX2_addBoard_71 : decode cX2_addBoard 71 = .ok (.iadd, 1) := by decide +kernel
theorem dX2_addBoard_72 : decode cX2_addBoard 72 = .ok (.putfield 46, 3) := by decide +kernel
theorem dX2_addBoard_75 : decode cX2_addBoard 75 = .ok (.return_, 1) := by decide +kernel
theorem dX2_addAsk_0 : decode cX2_addAsk 0 = .ok (.aload_n 0, 1) := by decide +kernel
theorem dX2_addAsk_1 : decode cX2_addAsk 1 = .ok (.getfield 49, 3) := by decide +kernel
theorem dX2_addAsk_4 : decode cX2_addAsk 4 = .ok (.bipush 12, 2) := by decide +kernel
theorem dX2_addAsk_6 : decode cX2_addAsk 6 = .ok (.if_icmp .ge 43, 3) := by decide +kernel
theorem dX2_addAsk_9 : decode cX2_addAsk 9 = .ok (.aload_n 0, 1) := by decide +kernel
theorem dX2_addAsk_10 : decode cX2_addAsk 10 = .ok (.getfield 27, 3) := by decide +kernel
theorem dX2_addAsk_13 : decode cX2_addAsk 13 = .ok (.aload_n 0, 1) := by decide +kernel
theorem dX2_addAsk_14 : decode cX2_addAsk 14 = .ok (.getfield 49, 3) := by decide +kernel
theorem dX2_addAsk_17 : decode cX2_addAsk 17 = .ok (.iload_n 1, 1) := by decide +kernel
theorem dX2_addAsk_18 : decode cX2_addAsk 18 = .ok (.iastore, 1) := by decide +kernel
theorem dX2_addAsk_19 : decode cX2_addAsk 19 = .ok (.aload_n 0, 1) := by decide +kernel
theorem dX2_addAsk_20 : decode cX2_addAsk 20 = .ok (.getfield 30, 3) := by decide +kernel
theorem dX2_addAsk_23 : decode cX2_addAsk 23 = .ok (.aload_n 0, 1) := by decide +kernel
theorem dX2_addAsk_24 : decode cX2_addAsk 24 = .ok (.getfield 49, 3) := by decide +kernel
theorem dX2_addAsk_27 : decode cX2_addAsk 27 = .ok (.iload_n 2, 1) := by decide +kernel
theorem dX2_addAsk_28 : decode cX2_addAsk 28 = .ok (.iastore, 1) := by decide +kernel
theorem dX2_addAsk_29 : decode cX2_addAsk 29 = .ok (.aload_n 0, 1) := by decide +kernel
theorem dX2_addAsk_30 : decode cX2_addAsk 30 = .ok (.getfield 33, 3) := by decide +kernel
theorem dX2_addAsk_33 : decode cX2_addAsk 33 = .ok (.aload_n 0, 1) := by decide +kernel
theorem dX2_addAsk_34 : decode cX2_addAsk 34 = .ok (.getfield 49, 3) := by decide +kernel
theorem dX2_addAsk_37 : decode cX2_addAsk 37 = .ok (.iload_n 3, 1) := by decide +kernel
theorem dX2_addAsk_38 : decode cX2_addAsk 38 = .ok (.iastore, 1) := by decide +kernel
theorem dX2_addAsk_39 : decode cX2_addAsk 39 = .ok (.aload_n 0, 1) := by decide +kernel
theorem dX2_addAsk_40 : decode cX2_addAsk 40 = .ok (.dup, 1) := by decide +kernel
theorem dX2_addAsk_41 : decode cX2_addAsk 41 = .ok (.getfield 49, 3) := by decide +kernel
theorem dX2_addAsk_44 : decode cX2_addAsk 44 = .ok (.iconst 1, 1) := by decide +kernel
theorem dX2_addAsk_45 : decode cX2_addAsk 45 = .ok (.iadd, 1) := by decide +kernel
theorem dX2_addAsk_46 : decode cX2_addAsk 46 = .ok (.putfield 49, 3) := by decide +kernel
theorem dX2_addAsk_49 : decode cX2_addAsk 49 = .ok (.return_, 1) := by decide +kernel
theorem dX2_latestAsk_0 : decode cX2_latestAsk 0 = .ok (.aload_n 0, 1) := by decide +kernel
theorem dX2_latestAsk_1 : decode cX2_latestAsk 1 = .ok (.getfield 49, 3) := by decide +kernel
theorem dX2_latestAsk_4 : decode cX2_latestAsk 4 = .ok (.iconst 1, 1) := by decide +kernel
theorem dX2_latestAsk_5 : decode cX2_latestAsk 5 = .ok (.if_icmp .lt 26, 3) := by decide +kernel
theorem dX2_latestAsk_8 : decode cX2_latestAsk 8 = .ok (.aload_n 0, 1) := by decide +kernel
theorem dX2_latestAsk_9 : decode cX2_latestAsk 9 = .ok (.getfield 49, 3) := by decide +kernel
theorem dX2_latestAsk_12 : decode cX2_latestAsk 12 = .ok (.bipush 12, 2) := by decide +kernel
theorem dX2_latestAsk_14 : decode cX2_latestAsk 14 = .ok (.if_icmp .gt 17, 3) := by decide +kernel
theorem dX2_latestAsk_17 : decode cX2_latestAsk 17 = .ok (.aload_n 0, 1) := by decide +kernel
theorem dX2_latestAsk_18 : decode cX2_latestAsk 18 = .ok (.getfield 27, 3) := by decide +kernel
theorem dX2_latestAsk_21 : decode cX2_latestAsk 21 = .ok (.aload_n 0, 1) := by decide +kernel
theorem dX2_latestAsk_22 : decode cX2_latestAsk 22 = .ok (.getfield 49, 3) := by decide +kernel
theorem dX2_latestAsk_25 : decode cX2_latestAsk 25 = .ok (.iconst 1, 1) := by decide +kernel
theorem dX2_latestAsk_26 : decode cX2_latestAsk 26 = .ok (.isub, 1) := by decide +kernel
theorem dX2_latestAsk_27 : decode cX2_latestAsk 27 = .ok (.iaload, 1) := by decide +kernel
theorem dX2_latestAsk_28 : decode cX2_latestAsk 28 = .ok (.goto 4, 3) := by decide +kernel
theorem dX2_latestAsk_31 : decode cX2_latestAsk 31 = .ok (.iconst 1, 1) := by decide +kernel
theorem dX2_latestAsk_32 : decode cX2_latestAsk 32 = .ok (.ireturn, 1) := by decide +kernel
theorem dX2_holds_0 : decode cX2_holds 0 = .ok (.iload_n 1, 1) := by decide +kernel
theorem dX2_holds_1 : decode cX2_holds 1 = .ok (.ifCond .lt 21, 3) := by decide +kernel
theorem dX2_holds_4 : decode cX2_holds 4 = .ok (.iload_n 1, 1) := by decide +kernel
theorem dX2_holds_5 : decode cX2_holds 5 = .ok (.aload_n 0, 1) := by decide +kernel
theorem dX2_holds_6 : decode cX2_holds 6 = .ok (.getfield 46, 3) := by decide +kernel
theorem dX2_holds_9 : decode cX2_holds 9 = .ok (.if_icmp .ge 13, 3) := by decide +kernel
theorem dX2_holds_12 : decode cX2_holds 12 = .ok (.iload_n 1, 1) := by decide +kernel
theorem dX2_holds_13 : decode cX2_holds 13 = .ok (.bipush 6, 2) := by decide +kernel
theorem dX2_holds_15 : decode cX2_holds 15 = .ok (.if_icmp .ge 7, 3) := by decide +kernel
theorem dX2_holds_18 : decode cX2_holds 18 = .ok (.iconst 1, 1) := by decide +kernel
theorem dX2_holds_19 : decode cX2_holds 19 = .ok (.goto 4, 3) := by decide +kernel
theorem dX2_holds_22 : decode cX2_holds 22 = .ok (.iconst 0, 1) := by decide +kernel
theorem dX2_holds_23 : decode cX2_holds 23 = .ok (.ireturn, 1) := by decide +kernel
theorem dX2_sets_0 : decode cX2_sets 0 = .ok (.iconst 1, 1) := by decide +kernel
theorem dX2_sets_1 : decode cX2_sets 1 = .ok (.aload_n 0, 1) := by decide +kernel
theorem dX2_sets_2 : decode cX2_sets 2 = .ok (.getfield 46, 3) := by decide +kernel
theorem dX2_sets_5 : decode cX2_sets 5 = .ok (.ishl, 1) := by decide +kernel
theorem dX2_sets_6 : decode cX2_sets 6 = .ok (.ireturn, 1) := by decide +kernel
theorem dX2_boardOfName_0 : decode cX2_boardOfName 0 = .ok (.aload_n 0, 1) := by decide +kernel
theorem dX2_boardOfName_1 : decode cX2_boardOfName 1 = .ok (.aload_n 0, 1) := by decide +kernel
theorem dX2_boardOfName_2 : decode cX2_boardOfName 2 = .ok (.getfield 9, 3) := by decide +kernel
theorem dX2_boardOfName_5 : decode cX2_boardOfName 5 = .ok (.iload_n 1, 1) := by decide +kernel
theorem dX2_boardOfName_6 : decode cX2_boardOfName 6 = .ok (.invokevirtual 60, 3) := by decide +kernel
theorem dX2_boardOfName_9 : decode cX2_boardOfName 9 = .ok (.ireturn, 1) := by decide +kernel
theorem dX2_boardOfSlot_0 : decode cX2_boardOfSlot 0 = .ok (.aload_n 0, 1) := by decide +kernel
theorem dX2_boardOfSlot_1 : decode cX2_boardOfSlot 1 = .ok (.aload_n 0, 1) := by decide +kernel
theorem dX2_boardOfSlot_2 : decode cX2_boardOfSlot 2 = .ok (.getfield 15, 3) := by decide +kernel
theorem dX2_boardOfSlot_5 : decode cX2_boardOfSlot 5 = .ok (.iload_n 1, 1) := by decide +kernel
theorem dX2_boardOfSlot_6 : decode cX2_boardOfSlot 6 = .ok (.invokevirtual 60, 3) := by decide +kernel
theorem dX2_boardOfSlot_9 : decode cX2_boardOfSlot 9 = .ok (.ireturn, 1) := by decide +kernel
theorem dX2_boardOfCode_0 : decode cX2_boardOfCode 0 = .ok (.aload_n 0, 1) := by decide +kernel
theorem dX2_boardOfCode_1 : decode cX2_boardOfCode 1 = .ok (.aload_n 0, 1) := by decide +kernel
theorem dX2_boardOfCode_2 : decode cX2_boardOfCode 2 = .ok (.getfield 18, 3) := by decide +kernel
theorem dX2_boardOfCode_5 : decode cX2_boardOfCode 5 = .ok (.iload_n 1, 1) := by decide +kernel
theorem dX2_boardOfCode_6 : decode cX2_boardOfCode 6 = .ok (.invokevirtual 60, 3) := by decide +kernel
theorem dX2_boardOfCode_9 : decode cX2_boardOfCode 9 = .ok (.ireturn, 1) := by decide +kernel
theorem dX2_find_0 : decode cX2_find 0 = .ok (.iconst 0, 1) := by decide +kernel
theorem dX2_find_1 : decode cX2_find 1 = .ok (.istore_n 3, 1) := by decide +kernel
theorem dX2_find_2 : decode cX2_find 2 = .ok (.iload_n 3, 1) := by decide +kernel
theorem dX2_find_3 : decode cX2_find 3 = .ok (.aload_n 0, 1) := by decide +kernel
theorem dX2_find_4 : decode cX2_find 4 = .ok (.getfield 46, 3) := by decide +kernel
theorem dX2_find_7 : decode cX2_find 7 = .ok (.if_icmp .ge 24, 3) := by decide +kernel
theorem dX2_find_10 : decode cX2_find 10 = .ok (.iload_n 3, 1) := by decide +kernel
theorem dX2_find_11 : decode cX2_find 11 = .ok (.aload_n 1, 1) := by decide +kernel
theorem dX2_find_12 : decode cX2_find 12 = .ok (.arraylength, 1) := by decide +kernel
theorem dX2_find_13 : decode cX2_find 13 = .ok (.if_icmp .ge 18, 3) := by decide +kernel
theorem dX2_find_16 : decode cX2_find 16 = .ok (.aload_n 1, 1) := by decide +kernel
theorem dX2_find_17 : decode cX2_find 17 = .ok (.iload_n 3, 1) := by decide +kernel
theorem dX2_find_18 : decode cX2_find 18 = .ok (.iaload, 1) := by decide +kernel
theorem dX2_find_19 : decode cX2_find 19 = .ok (.iload_n 2, 1) := by decide +kernel
theorem dX2_find_20 : decode cX2_find 20 = .ok (.if_icmp .ne 5, 3) := by decide +kernel
theorem dX2_find_23 : decode cX2_find 23 = .ok (.iload_n 3, 1) := by decide +kernel
theorem dX2_find_24 : decode cX2_find 24 = .ok (.ireturn, 1) := by decide +kernel
theorem dX2_find_25 : decode cX2_find 25 = .ok (.iinc 3 1, 3) := by decide +kernel
theorem dX2_find_28 : decode cX2_find 28 = .ok (.goto (-26), 3) := by decide +kernel
theorem dX2_find_31 : decode cX2_find 31 = .ok (.iconst (-1), 1) := by decide +kernel
theorem dX2_find_32 : decode cX2_find 32 = .ok (.ireturn, 1) := by decide +kernel
theorem dX2_fact_0 : decode cX2_fact 0 = .ok (.iload_n 1, 1) := by decide +kernel
theorem dX2_fact_1 : decode cX2_fact 1 = .ok (.tableswitch 51 0 3 #[31, 36, 41, 46], 31) := by decide +kernel
theorem dX2_fact_32 : decode cX2_fact 32 = .ok (.aload_n 0, 1) := by decide +kernel
theorem dX2_fact_33 : decode cX2_fact 33 = .ok (.getfield 36, 3) := by decide +kernel
theorem dX2_fact_36 : decode cX2_fact 36 = .ok (.ireturn, 1) := by decide +kernel
theorem dX2_fact_37 : decode cX2_fact 37 = .ok (.aload_n 0, 1) := by decide +kernel
theorem dX2_fact_38 : decode cX2_fact 38 = .ok (.getfield 40, 3) := by decide +kernel
theorem dX2_fact_41 : decode cX2_fact 41 = .ok (.ireturn, 1) := by decide +kernel
theorem dX2_fact_42 : decode cX2_fact 42 = .ok (.aload_n 0, 1) := by decide +kernel
theorem dX2_fact_43 : decode cX2_fact 43 = .ok (.getfield 43, 3) := by decide +kernel
theorem dX2_fact_46 : decode cX2_fact 46 = .ok (.ireturn, 1) := by decide +kernel
theorem dX2_fact_47 : decode cX2_fact 47 = .ok (.aload_n 0, 1) := by decide +kernel
theorem dX2_fact_48 : decode cX2_fact 48 = .ok (.getfield 46, 3) := by decide +kernel
theorem dX2_fact_51 : decode cX2_fact 51 = .ok (.ireturn, 1) := by decide +kernel
theorem dX2_fact_52 : decode cX2_fact 52 = .ok (.aload_n 0, 1) := by decide +kernel
theorem dX2_fact_53 : decode cX2_fact 53 = .ok (.getfield 49, 3) := by decide +kernel
theorem dX2_fact_56 : decode cX2_fact 56 = .ok (.ireturn, 1) := by decide +kernel
theorem dX2_boardFact_0 : decode cX2_boardFact 0 = .ok (.aload_n 0, 1) := by decide +kernel
theorem dX2_boardFact_1 : decode cX2_boardFact 1 = .ok (.iload_n 1, 1) := by decide +kernel
theorem dX2_boardFact_2 : decode cX2_boardFact 2 = .ok (.invokevirtual 64, 3) := by decide +kernel
theorem dX2_boardFact_5 : decode cX2_boardFact 5 = .ok (.ifCond .ne 5, 3) := by decide +kernel
theorem dX2_boardFact_8 : decode cX2_boardFact 8 = .ok (.iconst (-1), 1) := by decide +kernel
theorem dX2_boardFact_9 : decode cX2_boardFact 9 = .ok (.ireturn, 1) := by decide +kernel
theorem dX2_boardFact_10 : decode cX2_boardFact 10 = .ok (.iload_n 2, 1) := by decide +kernel
theorem dX2_boardFact_11 : decode cX2_boardFact 11 = .ok (.ifCond .ne 12, 3) := by decide +kernel
theorem dX2_boardFact_14 : decode cX2_boardFact 14 = .ok (.aload_n 0, 1) := by decide +kernel
theorem dX2_boardFact_15 : decode cX2_boardFact 15 = .ok (.getfield 15, 3) := by decide +kernel
theorem dX2_boardFact_18 : decode cX2_boardFact 18 = .ok (.iload_n 1, 1) := by decide +kernel
theorem dX2_boardFact_19 : decode cX2_boardFact 19 = .ok (.iaload, 1) := by decide +kernel
theorem dX2_boardFact_20 : decode cX2_boardFact 20 = .ok (.goto 23, 3) := by decide +kernel
theorem dX2_boardFact_23 : decode cX2_boardFact 23 = .ok (.iload_n 2, 1) := by decide +kernel
theorem dX2_boardFact_24 : decode cX2_boardFact 24 = .ok (.iconst 1, 1) := by decide +kernel
theorem dX2_boardFact_25 : decode cX2_boardFact 25 = .ok (.if_icmp .ne 12, 3) := by decide +kernel
theorem dX2_boardFact_28 : decode cX2_boardFact 28 = .ok (.aload_n 0, 1) := by decide +kernel
theorem dX2_boardFact_29 : decode cX2_boardFact 29 = .ok (.getfield 18, 3) := by decide +kernel
theorem dX2_boardFact_32 : decode cX2_boardFact 32 = .ok (.iload_n 1, 1) := by decide +kernel
theorem dX2_boardFact_33 : decode cX2_boardFact 33 = .ok (.iaload, 1) := by decide +kernel
theorem dX2_boardFact_34 : decode cX2_boardFact 34 = .ok (.goto 9, 3) := by decide +kernel
theorem dX2_boardFact_37 : decode cX2_boardFact 37 = .ok (.aload_n 0, 1) := by decide +kernel
theorem dX2_boardFact_38 : decode cX2_boardFact 38 = .ok (.getfield 21, 3) := by decide +kernel
theorem dX2_boardFact_41 : decode cX2_boardFact 41 = .ok (.iload_n 1, 1) := by decide +kernel
theorem dX2_boardFact_42 : decode cX2_boardFact 42 = .ok (.iaload, 1) := by decide +kernel
theorem dX2_boardFact_43 : decode cX2_boardFact 43 = .ok (.ireturn, 1) := by decide +kernel
theorem dX3_init_0 : decode cX3_init 0 = .ok (.aload_n 0, 1) := by decide +kernel
theorem dX3_init_1 : decode cX3_init 1 = .ok (.invokespecial 3, 3) := by decide +kernel
theorem dX3_init_4 : decode cX3_init 4 = .ok (.aload_n 0, 1) := by decide +kernel
theorem dX3_init_5 : decode cX3_init 5 = .ok (.new 9, 3) := by decide +kernel
theorem dX3_init_8 : decode cX3_init 8 = .ok (.dup, 1) := by decide +kernel
theorem dX3_init_9 : decode cX3_init 9 = .ok (.invokespecial 11, 3) := by decide +kernel
theorem dX3_init_12 : decode cX3_init 12 = .ok (.putfield 12, 3) := by decide +kernel
theorem dX3_init_15 : decode cX3_init 15 = .ok (.aload_n 0, 1) := by decide +kernel
theorem dX3_init_16 : decode cX3_init 16 = .ok (.aload_n 1, 1) := by decide +kernel
theorem dX3_init_17 : decode cX3_init 17 = .ok (.putfield 18, 3) := by decide +kernel
theorem dX3_init_20 : decode cX3_init 20 = .ok (.return_, 1) := by decide +kernel
theorem dX3_read_0 : decode cX3_read 0 = .ok (.aload_n 0, 1) := by decide +kernel
theorem dX3_read_1 : decode cX3_read 1 = .ok (.aload_n 2, 1) := by decide +kernel
theorem dX3_read_2 : decode cX3_read 2 = .ok (.putfield 12, 3) := by decide +kernel
theorem dX3_read_5 : decode cX3_read 5 = .ok (.aload_n 0, 1) := by decide +kernel
theorem dX3_read_6 : decode cX3_read 6 = .ok (.iload_n 1, 1) := by decide +kernel
theorem dX3_read_7 : decode cX3_read 7 = .ok (.sipush 700, 3) := by decide +kernel
theorem dX3_read_10 : decode cX3_read 10 = .ok (.invokestatic 22, 3) := by decide +kernel
theorem dX3_read_13 : decode cX3_read 13 = .ok (.putfield 28, 3) := by decide +kernel
theorem dX3_read_16 : decode cX3_read 16 = .ok (.aload_n 0, 1) := by decide +kernel
theorem dX3_read_17 : decode cX3_read 17 = .ok (.iconst 0, 1) := by decide +kernel
theorem dX3_read_18 : decode cX3_read 18 = .ok (.putfield 32, 3) := by decide +kernel
theorem dX3_read_21 : decode cX3_read 21 = .ok (.aload_n 0, 1) := by decide +kernel
theorem dX3_read_22 : decode cX3_read 22 = .ok (.iconst 0, 1) := by decide +kernel
theorem dX3_read_23 : decode cX3_read 23 = .ok (.putfield 35, 3) := by decide +kernel
theorem dX3_read_26 : decode cX3_read 26 = .ok (.aload_n 0, 1) := by decide +kernel
theorem dX3_read_27 : decode cX3_read 27 = .ok (.iconst 0, 1) := by decide +kernel
theorem dX3_read_28 : decode cX3_read 28 = .ok (.putfield 38, 3) := by decide +kernel
theorem dX3_read_31 : decode cX3_read 31 = .ok (.aload_n 2, 1) := by decide +kernel
theorem dX3_read_32 : decode cX3_read 32 = .ok (.invokevirtual 41, 3) := by decide +kernel
theorem dX3_read_35 : decode cX3_read 35 = .ok (.iconst 1, 1) := by decide +kernel
theorem dX3_read_36 : decode cX3_read 36 = .ok (.istore_n 3, 1) := by decide +kernel
theorem dX3_read_37 : decode cX3_read 37 = .ok (.iconst 0, 1) := by decide +kernel
theorem dX3_read_38 : decode cX3_read 38 = .ok (.istore 4, 2) := by decide +kernel
theorem dX3_read_40 : decode cX3_read 40 = .ok (.iload_n 3, 1) := by decide +kernel
theorem dX3_read_41 : decode cX3_read 41 = .ok (.ifCond .eq 37, 3) := by decide +kernel
theorem dX3_read_44 : decode cX3_read 44 = .ok (.iload 4, 2) := by decide +kernel
theorem dX3_read_46 : decode cX3_read 46 = .ok (.sipush 700, 3) := by decide +kernel
theorem dX3_read_49 : decode cX3_read 49 = .ok (.if_icmp .gt 29, 3) := by decide +kernel
theorem dX3_read_52 : decode cX3_read 52 = .ok (.aload_n 0, 1) := by decide +kernel
theorem dX3_read_53 : decode cX3_read 53 = .ok (.invokevirtual 44, 3) := by decide +kernel
theorem dX3_read_56 : decode cX3_read 56 = .ok (.ifCond .eq 14, 3) := by decide +kernel
theorem dX3_read_59 : decode cX3_read 59 = .ok (.aload_n 0, 1) := by decide +kernel
theorem dX3_read_60 : decode cX3_read 60 = .ok (.invokevirtual 48, 3) := by decide +kernel
theorem dX3_read_63 : decode cX3_read 63 = .ok (.ifCond .eq 7, 3) := by decide +kernel
theorem dX3_read_66 : decode cX3_read 66 = .ok (.iconst 1, 1) := by decide +kernel
