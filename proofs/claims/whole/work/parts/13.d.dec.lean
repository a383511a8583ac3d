theorem dJ6_bitCount_0f7a4_0 : decode cJ6_bitCount_0f7a4 0 = .ok (.iload_n 0, 1) := by decide +kernel
theorem dJ6_bitCount_0f7a4_1 : decode cJ6_bitCount_0f7a4 1 = .ok (.iload_n 0, 1) := by decide +kernel
theorem dJ6_bitCount_0f7a4_2 : decode cJ6_bitCount_0f7a4 2 = .ok (.iconst 1, 1) := by decide +kernel
theorem dJ6_bitCount_0f7a4_3 : decode cJ6_bitCount_0f7a4 3 = .ok (.iushr, 1) := by decide +kernel
theorem dJ6_bitCount_0f7a4_4 : decode cJ6_bitCount_0f7a4 4 = .ok (.ldc_w 265, 3) := by decide +kernel
theorem dJ6_bitCount_0f7a4_7 : decode cJ6_bitCount_0f7a4 7 = .ok (.iand, 1) := by decide +kernel
theorem dJ6_bitCount_0f7a4_8 : decode cJ6_bitCount_0f7a4 8 = .ok (.isub, 1) := by decide +kernel
theorem dJ6_bitCount_0f7a4_9 : decode cJ6_bitCount_0f7a4 9 = .ok (.istore_n 0, 1) := by decide +kernel
theorem dJ6_bitCount_0f7a4_10 : decode cJ6_bitCount_0f7a4 10 = .ok (.iload_n 0, 1) := by decide +kernel
theorem dJ6_bitCount_0f7a4_11 : decode cJ6_bitCount_0f7a4 11 = .ok (.ldc_w 266, 3) := by decide +kernel
theorem dJ6_bitCount_0f7a4_14 : decode cJ6_bitCount_0f7a4 14 = .ok (.iand, 1) := by decide +kernel
theorem dJ6_bitCount_0f7a4_15 : decode cJ6_bitCount_0f7a4 15 = .ok (.iload_n 0, 1) := by decide +kernel
theorem dJ6_bitCount_0f7a4_16 : decode cJ6_bitCount_0f7a4 16 = .ok (.iconst 2, 1) := by decide +kernel
theorem dJ6_bitCount_0f7a4_17 : decode cJ6_bitCount_0f7a4 17 = .ok (.iushr, 1) := by decide +kernel
theorem dJ6_bitCount_0f7a4_18 : decode cJ6_bitCount_0f7a4 18 = .ok (.ldc_w 266, 3) := by decide +kernel
theorem dJ6_bitCount_0f7a4_21 : decode cJ6_bitCount_0f7a4 21 = .ok (.iand, 1) := by decide +kernel
theorem dJ6_bitCount_0f7a4_22 : decode cJ6_bitCount_0f7a4 22 = .ok (.iadd, 1) := by decide +kernel
theorem dJ6_bitCount_0f7a4_23 : decode cJ6_bitCount_0f7a4 23 = .ok (.istore_n 0, 1) := by decide +kernel
theorem dJ6_bitCount_0f7a4_24 : decode cJ6_bitCount_0f7a4 24 = .ok (.iload_n 0, 1) := by decide +kernel
theorem dJ6_bitCount_0f7a4_25 : decode cJ6_bitCount_0f7a4 25 = .ok (.iload_n 0, 1) := by decide +kernel
theorem dJ6_bitCount_0f7a4_26 : decode cJ6_bitCount_0f7a4 26 = .ok (.iconst 4, 1) := by decide +kernel
theorem dJ6_bitCount_0f7a4_27 : decode cJ6_bitCount_0f7a4 27 = .ok (.iushr, 1) := by decide +kernel
theorem dJ6_bitCount_0f7a4_28 : decode cJ6_bitCount_0f7a4 28 = .ok (.iadd, 1) := by decide +kernel
theorem dJ6_bitCount_0f7a4_29 : decode cJ6_bitCount_0f7a4 29 = .ok (.ldc_w 267, 3) := by decide +kernel
theorem dJ6_bitCount_0f7a4_32 : decode cJ6_bitCount_0f7a4 32 = .ok (.iand, 1) := by decide +kernel
theorem dJ6_bitCount_0f7a4_33 : decode cJ6_bitCount_0f7a4 33 = .ok (.istore_n 0, 1) := by decide +kernel
theorem dJ6_bitCount_0f7a4_34 : decode cJ6_bitCount_0f7a4 34 = .ok (.iload_n 0, 1) := by decide +kernel
theorem dJ6_bitCount_0f7a4_35 : decode cJ6_bitCount_0f7a4 35 = .ok (.iload_n 0, 1) := by decide +kernel
theorem dJ6_bitCount_0f7a4_36 : decode cJ6_bitCount_0f7a4 36 = .ok (.bipush 8, 2) := by decide +kernel
theorem dJ6_bitCount_0f7a4_38 : decode cJ6_bitCount_0f7a4 38 = .ok (.iushr, 1) := by decide +kernel
theorem dJ6_bitCount_0f7a4_39 : decode cJ6_bitCount_0f7a4 39 = .ok (.iadd, 1) := by decide +kernel
theorem dJ6_bitCount_0f7a4_40 : decode cJ6_bitCount_0f7a4 40 = .ok (.istore_n 0, 1) := by decide +kernel
theorem dJ6_bitCount_0f7a4_41 : decode cJ6_bitCount_0f7a4 41 = .ok (.iload_n 0, 1) := by decide +kernel
theorem dJ6_bitCount_0f7a4_42 : decode cJ6_bitCount_0f7a4 42 = .ok (.iload_n 0, 1) := by decide +kernel
theorem dJ6_bitCount_0f7a4_43 : decode cJ6_bitCount_0f7a4 43 = .ok (.bipush 16, 2) := by decide +kernel
theorem dJ6_bitCount_0f7a4_45 : decode cJ6_bitCount_0f7a4 45 = .ok (.iushr, 1) := by decide +kernel
theorem dJ6_bitCount_0f7a4_46 : decode cJ6_bitCount_0f7a4 46 = .ok (.iadd, 1) := by decide +kernel
theorem dJ6_bitCount_0f7a4_47 : decode cJ6_bitCount_0f7a4 47 = .ok (.istore_n 0, 1) := by decide +kernel
theorem dJ6_bitCount_0f7a4_48 : decode cJ6_bitCount_0f7a4 48 = .ok (.iload_n 0, 1) := by decide +kernel
theorem dJ6_bitCount_0f7a4_49 : decode cJ6_bitCount_0f7a4 49 = .ok (.bipush 63, 2) := by decide +kernel
theorem dJ6_bitCount_0f7a4_51 : decode cJ6_bitCount_0f7a4 51 = .ok (.iand, 1) := by decide +kernel
theorem dJ6_bitCount_0f7a4_52 : decode cJ6_bitCount_0f7a4 52 = .ok (.ireturn, 1) := by decide +kernel
theorem dJ9_floorMod_7cf53_0 : decode cJ9_floorMod_7cf53 0 = .ok (.iload_n 0, 1) := by decide +kernel
theorem dJ9_floorMod_7cf53_1 : decode cJ9_floorMod_7cf53 1 = .ok (.iload_n 1, 1) := by decide +kernel
theorem dJ9_floorMod_7cf53_2 : decode cJ9_floorMod_7cf53 2 = .ok (.irem, 1) := by decide +kernel
theorem dJ9_floorMod_7cf53_3 : decode cJ9_floorMod_7cf53 3 = .ok (.istore_n 2, 1) := by decide +kernel
theorem dJ9_floorMod_7cf53_4 : decode cJ9_floorMod_7cf53 4 = .ok (.iload_n 0, 1) := by decide +kernel
theorem dJ9_floorMod_7cf53_5 : decode cJ9_floorMod_7cf53 5 = .ok (.iload_n 1, 1) := by decide +kernel
theorem dJ9_floorMod_7cf53_6 : decode cJ9_floorMod_7cf53 6 = .ok (.ixor, 1) := by decide +kernel
theorem dJ9_floorMod_7cf53_7 : decode cJ9_floorMod_7cf53 7 = .ok (.ifCond .ge 11, 3) := by decide +kernel
theorem dJ9_floorMod_7cf53_10 : decode cJ9_floorMod_7cf53 10 = .ok (.iload_n 2, 1) := by decide +kernel
theorem dJ9_floorMod_7cf53_11 : decode cJ9_floorMod_7cf53 11 = .ok (.ifCond .eq 7, 3) := by decide +kernel
theorem dJ9_floorMod_7cf53_14 : decode cJ9_floorMod_7cf53 14 = .ok (.iload_n 2, 1) := by decide +kernel
theorem dJ9_floorMod_7cf53_15 : decode cJ9_floorMod_7cf53 15 = .ok (.iload_n 1, 1) := by decide +kernel
theorem dJ9_floorMod_7cf53_16 : decode cJ9_floorMod_7cf53 16 = .ok (.iadd, 1) := by decide +kernel
theorem dJ9_floorMod_7cf53_17 : decode cJ9_floorMod_7cf53 17 = .ok (.ireturn, 1) := by decide +kernel
theorem dJ9_floorMod_7cf53_18 : decode cJ9_floorMod_7cf53 18 = .ok (.iload_n 2, 1) := by decide +kernel
theorem dJ9_floorMod_7cf53_19 : decode cJ9_floorMod_7cf53 19 = .ok (.ireturn, 1) := by decide +kernel
theorem dJ9_abs_0f7a4_0 : decode cJ9_abs_0f7a4 0 = .ok (.iload_n 0, 1) := by decide +kernel
theorem dJ9_abs_0f7a4_1 : decode cJ9_abs_0f7a4 1 = .ok (.ifCond .ge 8, 3) := by decide +kernel
theorem dJ9_abs_0f7a4_4 : decode cJ9_abs_0f7a4 4 = .ok (.iload_n 0, 1) := by decide +kernel
theorem dJ9_abs_0f7a4_5 : decode cJ9_abs_0f7a4 5 = .ok (.ineg, 1) := by decide +kernel
theorem dJ9_abs_0f7a4_6 : decode cJ9_abs_0f7a4 6 = .ok (.goto 4, 3) := by decide +kernel
theorem dJ9_abs_0f7a4_9 : decode cJ9_abs_0f7a4 9 = .ok (.iload_n 0, 1) := by decide +kernel
theorem dJ9_abs_0f7a4_10 : decode cJ9_abs_0f7a4 10 = .ok (.ireturn, 1) := by decide +kernel
theorem dJ9_max_7cf53_0 : decode cJ9_max_7cf53 0 = .ok (.iload_n 0, 1) := by decide +kernel
theorem dJ9_max_7cf53_1 : decode cJ9_max_7cf53 1 = .ok (.iload_n 1, 1) := by decide +kernel
theorem dJ9_max_7cf53_2 : decode cJ9_max_7cf53 2 = .ok (.if_icmp .lt 7, 3) := by decide +kernel
theorem dJ9_max_7cf53_5 : decode cJ9_max_7cf53 5 = .ok (.iload_n 0, 1) := by decide +kernel
theorem dJ9_max_7cf53_6 : decode cJ9_max_7cf53 6 = .ok (.goto 4, 3) := by decide +kernel
theorem dJ9_max_7cf53_9 : decode cJ9_max_7cf53 9 = .ok (.iload_n 1, 1) := by decide +kernel
theorem dJ9_max_7cf53_10 : decode cJ9_max_7cf53 10 = .ok (.ireturn, 1) := by decide +kernel
theorem dJ9_min_7cf53_0 : decode cJ9_min_7cf53 0 = .ok (.iload_n 0, 1) := by decide +kernel
theorem dJ9_min_7cf53_1 : decode cJ9_min_7cf53 1 = .ok (.iload_n 1, 1) := by decide +kernel
theorem dJ9_min_7cf53_2 : decode cJ9_min_7cf53 2 = .ok (.if_icmp .gt 7, 3) := by decide +kernel
theorem dJ9_min_7cf53_5 : decode cJ9_min_7cf53 5 = .ok (.iload_n 0, 1) := by decide +kernel
theorem dJ9_min_7cf53_6 : decode cJ9_min_7cf53 6 = .ok (.goto 4, 3) := by decide +kernel
theorem dJ9_min_7cf53_9 : decode cJ9_min_7cf53 9 = .ok (.iload_n 1, 1) := by decide +kernel
theorem dJ9_min_7cf53_10 : decode cJ9_min_7cf53 10 = .ok (.ireturn, 1) := by decide +kernel
theorem dJ0_length_8abf5_0 : decode cJ0_length_8abf5 0 = .ok (.aload_n 0, 1) := by decide +kernel
theorem dJ0_length_8abf5_1 : decode cJ0_length_8abf5 1 = .ok (.getfield 9, 3) := by decide +kernel
theorem dJ0_length_8abf5_4 : decode cJ0_length_8abf5 4 = .ok (.arraylength, 1) := by decide +kernel
theorem dJ0_length_8abf5_5 : decode cJ0_length_8abf5 5 = .ok (.aload_n 0, 1) := by decide +kernel
theorem dJ0_length_8abf5_6 : decode cJ0_length_8abf5 6 = .ok (.invokevirtual 335, 3) := by decide +kernel
theorem dJ0_length_8abf5_9 : decode cJ0_length_8abf5 9 = .ok (.ishr, 1) := by decide +kernel
theorem dJ0_length_8abf5_10 : decode cJ0_length_8abf5 10 = .ok (.ireturn, 1) := by decide +kernel
theorem dJ0_charAt_5068e_0 : decode cJ0_charAt_5068e 0 = .ok (.aload_n 0, 1) := by decide +kernel
theorem dJ0_charAt_5068e_1 : decode cJ0_charAt_5068e 1 = .ok (.invokevirtual 492, 3) := by decide +kernel
theorem dJ0_charAt_5068e_4 : decode cJ0_charAt_5068e 4 = .ok (.ifCond .eq 12, 3) := by decide +kernel
theorem dJ0_charAt_5068e_7 : decode cJ0_charAt_5068e 7 = .ok (.aload_n 0, 1) := by decide +kernel
theorem dJ0_charAt_5068e_8 : decode cJ0_charAt_5068e 8 = .ok (.getfield 9, 3) := by decide +kernel
theorem dJ0_charAt_5068e_11 : decode cJ0_charAt_5068e 11 = .ok (.iload_n 1, 1) := by decide +kernel
theorem dJ0_charAt_5068e_12 : decode cJ0_charAt_5068e 12 = .ok (.invokestatic 495, 3) := by decide +kernel
theorem dJ0_charAt_5068e_15 : decode cJ0_charAt_5068e 15 = .ok (.ireturn, 1) := by decide +kernel
theorem dJ0_charAt_5068e_16 : decode cJ0_charAt_5068e 16 = .ok (.aload_n 0, 1) := by decide +kernel
theorem dJ0_charAt_5068e_17 : decode cJ0_charAt_5068e 17 = .ok (.getfield 9, 3) := by decide +kernel
theorem dJ0_charAt_5068e_20 : decode cJ0_charAt_5068e 20 = .ok (.iload_n 1, 1) := by decide +kernel
theorem dJ0_charAt_5068e_21 : decode cJ0_charAt_5068e 21 = .ok (.invokestatic 498, 3) := by decide +kernel
theorem dJ0_charAt_5068e_24 : decode cJ0_charAt_5068e 24 = .ok (.ireturn, 1) := by decide +kernel
theorem dJ0_coder_7d493_0 : decode cJ0_coder_7d493 0 = .ok (.getstatic 38, 3) := by decide +kernel
theorem dJ0_coder_7d493_3 : decode cJ0_coder_7d493 3 = .ok (.ifCond .eq 10, 3) := by decide +kernel
theorem dJ0_coder_7d493_6 : decode cJ0_coder_7d493 6 = .ok (.aload_n 0, 1) := by decide +kernel
theorem dJ0_coder_7d493_7 : decode cJ0_coder_7d493 7 = .ok (.getfield 15, 3) := by decide +kernel
theorem dJ0_coder_7d493_10 : decode cJ0_coder_7d493 10 = .ok (.goto 4, 3) := by decide +kernel
theorem dJ0_coder_7d493_13 : decode cJ0_coder_7d493 13 = .ok (.iconst 1, 1) := by decide +kernel
theorem dJ0_coder_7d493_14 : decode cJ0_coder_7d493 14 = .ok (.ireturn, 1) := by decide +kernel
theorem dJ0_isLatin1_aae02_0 : decode cJ0_isLatin1_aae02 0 = .ok (.getstatic 38, 3) := by decide +kernel
theorem dJ0_isLatin1_aae02_3 : decode cJ0_isLatin1_aae02 3 = .ok (.ifCond .eq 14, 3) := by decide +kernel
theorem dJ0_isLatin1_aae02_6 : decode cJ0_isLatin1_aae02 6 = .ok (.aload_n 0, 1) := by decide +kernel
theorem dJ0_isLatin1_aae02_7 : decode cJ0_isLatin1_aae02 7 = .ok (.getfield 15, 3) := by decide +kernel
theorem dJ0_isLatin1_aae02_10 : decode cJ0_isLatin1_aae02 10 = .ok (.ifCond .ne 7, 3) := by decide +kernel
theorem dJ0_isLatin1_aae02_13 : decode cJ0_isLatin1_aae02 13 = .ok (.iconst 1, 1) := by decide +kernel
theorem dJ0_isLatin1_aae02_14 : decode cJ0_isLatin1_aae02 14 = .ok (.goto 4, 3) := by decide +kernel
theorem dJ0_isLatin1_aae02_17 : decode cJ0_isLatin1_aae02 17 = .ok (.iconst 0, 1) := by decide +kernel
theorem dJ0_isLatin1_aae02_18 : decode cJ0_isLatin1_aae02 18 = .ok (.ireturn, 1) := by decide +kernel
theorem dJ0_checkIndex_df160_0 : decode cJ0_checkIndex_df160 0 = .ok (.iload_n 0, 1) := by decide +kernel
theorem dJ0_checkIndex_df160_1 : decode cJ0_checkIndex_df160 1 = .ok (.iload_n 1, 1) := by decide +kernel
theorem dJ0_checkIndex_df160_2 : decode cJ0_checkIndex_df160 2 = .ok (.getstatic 1053, 3) := by decide +kernel
theorem dJ0_checkIndex_df160_5 : decode cJ0_checkIndex_df160 5 = .ok (.invokestatic 1059, 3) := by decide +kernel
theorem dJ0_checkIndex_df160_8 : decode cJ0_checkIndex_df160 8 = .ok (.pop, 1) := by decide +kernel
theorem dJ0_checkIndex_df160_9 : decode cJ0_checkIndex_df160 9 = .ok (.return_, 1) := by decide +kernel
theorem dJ1_charAt_3b067_0 : decode cJ1_charAt_3b067 0 = .ok (.iload_n 1, 1) := by decide +kernel
theorem dJ1_charAt_3b067_1 : decode cJ1_charAt_3b067 1 = .ok (.aload_n 0, 1) := by decide +kernel
theorem dJ1_charAt_3b067_2 : decode cJ1_charAt_3b067 2 = .ok (.arraylength, 1) := by decide +kernel
theorem dJ1_charAt_3b067_3 : decode cJ1_charAt_3b067 3 = .ok (.invokestatic 9, 3) := by decide +kernel
theorem dJ1_charAt_3b067_6 : decode cJ1_charAt_3b067 6 = .ok (.aload_n 0, 1) := by decide +kernel
theorem dJ1_charAt_3b067_7 : decode cJ1_charAt_3b067 7 = .ok (.iload_n 1, 1) := by decide +kernel
theorem dJ1_charAt_3b067_8 : decode cJ1_charAt_3b067 8 = .ok (.baload, 1) := by decide +kernel
theorem dJ1_charAt_3b067_9 : decode cJ1_charAt_3b067 9 = .ok (.sipush 255, 3) := by decide +kernel
theorem dJ1_charAt_3b067_12 : decode cJ1_charAt_3b067 12 = .ok (.iand, 1) := by decide +kernel
theorem dJ1_charAt_3b067_13 : decode cJ1_charAt_3b067 13 = .ok (.i2c, 1) := by decide +kernel
theorem dJ1_charAt_3b067_14 : decode cJ1_charAt_3b067 14 = .ok (.ireturn, 1) := by decide +kernel
theorem dJ2_getChar_3b067_0 : decode cJ2_getChar_3b067 0 = .ok (.getstatic 44, 3) := by decide +kernel
theorem dJ2_getChar_3b067_3 : decode cJ2_getChar_3b067 3 = .ok (.ifCond .ne 25, 3) := by decide +kernel
theorem dJ2_getChar_3b067_6 : decode cJ2_getChar_3b067 6 = .ok (.iload_n 1, 1) := by decide +kernel
theorem dJ2_getChar_3b067_7 : decode cJ2_getChar_3b067 7 = .ok (.ifCond .lt 11, 3) := by decide +kernel
theorem dJ2_getChar_3b067_10 : decode cJ2_getChar_3b067 10 = .ok (.iload_n 1, 1) := by decide +kernel
theorem dJ2_getChar_3b067_11 : decode cJ2_getChar_3b067 11 = .ok (.aload_n 0, 1) := by decide +kernel
theorem dJ2_getChar_3b067_12 : decode cJ2_getChar_3b067 12 = .ok (.invokestatic 48, 3) := by decide +kernel
theorem dJ2_getChar_3b067_15 : decode cJ2_getChar_3b067 15 = .ok (.if_icmp .lt 13, 3) := by decide +kernel
theorem dJ2_getChar_3b067_18 : decode cJ2_getChar_3b067 18 = .ok (.new 52, 3) := by decide +kernel
theorem dJ2_getChar_3b067_21 : decode cJ2_getChar_3b067 21 = .ok (.dup, 1) := by decide +kernel
theorem dJ2_getChar_3b067_22 : decode cJ2_getChar_3b067 22 = .ok (.ldc 54, 2) := by decide +kernel
theorem dJ2_getChar_3b067_24 : decode cJ2_getChar_3b067 24 = .ok (.invokespecial 56, 3) := by decide +kernel
theorem dJ2_getChar_3b067_27 : decode cJ2_getChar_3b067 27 = .ok (.athrow, 1) := by decide +kernel
theorem dJ2_getChar_3b067_28 : decode cJ2_getChar_3b067 28 = .ok (.iload_n 1, 1) := by decide +kernel
theorem dJ2_getChar_3b067_29 : decode cJ2_getChar_3b067 29 = .ok (.iconst 1, 1) := by decide +kernel
theorem dJ2_getChar_3b067_30 : decode cJ2_getChar_3b067 30 = .ok (.ishl, 1) := by decide +kernel
theorem dJ2_getChar_3b067_31 : decode cJ2_getChar_3b067 31 = .ok (.istore_n 1, 1) := by decide +kernel
theorem dJ2_getChar_3b067_32 : decode cJ2_getChar_3b067 32 = .ok (.aload_n 0, 1) := by decide +kernel
theorem dJ2_getChar_3b067_33 : decode cJ2_getChar_3b067 33 = .ok (.iload_n 1, 1) := by decide +kernel
theorem dJ2_getChar_3b067_34 : decode cJ2_getChar_3b067 34 = .ok (.iinc 1 1, 3) := by decide +kernel
theorem dJ2_getChar_3b067_37 : decode cJ2_getChar_3b067 37 = .ok (.baload, 1) := by decide +kernel
theorem dJ2_getChar_3b067_38 : decode cJ2_getChar_3b067 38 = .ok (.sipush 255, 3) := by decide +kernel
theorem dJ2_getChar_3b067_41 : decode cJ2_getChar_3b067 41 = .ok (.iand, 1) := by decide +kernel
theorem dJ2_getChar_3b067_42 : decode cJ2_getChar_3b067 42 = .ok (.getstatic 59, 3) := by decide +kernel
theorem dJ2_getChar_3b067_45 : decode cJ2_getChar_3b067 45 = .ok (.ishl, 1) := by decide +kernel
theorem dJ2_getChar_3b067_46 : decode cJ2_getChar_3b067 46 = .ok (.aload_n 0, 1) := by decide +kernel
theorem dJ2_getChar_3b067_47 : decode cJ2_getChar_3b067 47 = .ok (.iload_n 1, 1) := by decide +kernel
theorem dJ2_getChar_3b067_48 : decode cJ2_getChar_3b067 48 = .ok (.baload, 1) := by decide +kernel
theorem dJ2_getChar_3b067_49 : decode cJ2_getChar_3b067 49 = .ok (.sipush 255, 3) := by decide +kernel
theorem dJ2_getChar_3b067_52 : decode cJ2_getChar_3b067 52 = .ok (.iand, 1) := by decide +kernel
theorem dJ2_getChar_3b067_53 : decode cJ2_getChar_3b067 53 = .ok (.getstatic 63, 3) := by decide +kernel
theorem dJ2_getChar_3b067_56 : decode cJ2_getChar_3b067 56 = .ok (.ishl, 1) := by decide +kernel
theorem dJ2_getChar_3b067_57 : decode cJ2_getChar_3b067 57 = .ok (.ior, 1) := by decide +kernel
theorem dJ2_getChar_3b067_58 : decode cJ2_getChar_3b067 58 = .ok (.i2c, 1) := by decide +kernel
theorem dJ2_getChar_3b067_59 : decode cJ2_getChar_3b067 59 = .ok (.ireturn, 1) := by decide +kernel
theorem dJ2_length_9d52b_0 : decode cJ2_length_9d52b 0 = .ok (.aload_n 0, 1) := by decide +kernel
theorem dJ2_length_9d52b_1 : decode cJ2_length_9d52b 1 = .ok (.arraylength, 1) := by decide +kernel
theorem dJ2_length_9d52b_2 : decode cJ2_length_9d52b 2 = .ok (.iconst 1, 1) := by decide +kernel
theorem dJ2_length_9d52b_3 : decode cJ2_length_9d52b 3 = .ok (.ishr, 1) := by decide +kernel
theorem dJ2_length_9d52b_4 : decode cJ2_length_9d52b 4 = .ok (.ireturn, 1) := by decide +kernel
theorem dJ2_charAt_3b067_0 : decode cJ2_charAt_3b067 0 = .ok (.iload_n 1, 1) := by decide +kernel
theorem dJ2_charAt_3b067_1 : decode cJ2_charAt_3b067 1 = .ok (.aload_n 0, 1) := by decide +kernel
theorem dJ2_charAt_3b067_2 : decode cJ2_charAt_3b067 2 = .ok (.invokestatic 67, 3) := by decide +kernel
theorem dJ2_charAt_3b067_5 : decode cJ2_charAt_3b067 5 = .ok (.aload_n 0, 1) := by decide +kernel
theorem dJ2_charAt_3b067_6 : decode cJ2_charAt_3b067 6 = .ok (.iload_n 1, 1) := by decide +kernel
theorem dJ2_charAt_3b067_7 : decode cJ2_charAt_3b067 7 = .ok (.invokestatic 71, 3) := by decide +kernel
theorem dJ2_charAt_3b067_10 : decode cJ2_charAt_3b067 10 = .ok (.ireturn, 1) := by decide +kernel
theorem dJ2_checkIndex_2214a_0 : decode cJ2_checkIndex_2214a 0 = .ok (.iload_n 0, 1) := by decide +kernel
theorem dJ2_checkIndex_2214a_1 : decode cJ2_checkIndex_2214a 1 = .ok (.aload_n 1, 1) := by decide +kernel
theorem dJ2_checkIndex_2214a_2 : decode cJ2_checkIndex_2214a 2 = .ok (.invokestatic 48, 3) := by decide +kernel
theorem dJ2_checkIndex_2214a_5 : decode cJ2_checkIndex_2214a 5 = .ok (.invokestatic 414, 3) := by decide +kernel
theorem dJ2_checkIndex_2214a_8 : decode cJ2_checkIndex_2214a 8 = .ok (.return_, 1) := by decide +kernel
theorem dJ7_fill_53178_0 : decode cJ7_fill_53178 0 = .ok (.iconst 0, 1) := by decide +kernel
theorem dJ7_fill_53178_1 : decode cJ7_fill_53178 1 = .ok (.istore_n 2, 1) := by decide +kernel
theorem dJ7_fill_53178_2 : decode cJ7_fill_53178 2 = .ok (.aload_n 0, 1) := by decide +kernel
theorem dJ7_fill_53178_3 : decode cJ7_fill_53178 3 = .ok (.arraylength, 1) := by decide +kernel
theorem dJ7_fill_53178_4 : decode cJ7_fill_53178 4 = .ok (.istore_n 3, 1) := by decide +kernel
theorem dJ7_fill_53178_5 : decode cJ7_fill_53178 5 = .ok (.iload_n 2, 1) := by decide +kernel
theorem dJ7_fill_53178_6 : decode cJ7_fill_53178 6 = .ok (.iload_n 3, 1) := by decide +kernel
theorem dJ7_fill_53178_7 : decode cJ7_fill_53178 7 = .ok (.if_icmp .ge 13, 3) := by decide +kernel
theorem dJ7_fill_53178_10 : decode cJ7_fill_53178 10 = .ok (.aload_n 0, 1) := by decide +kernel
theorem dJ7_fill_53178_11 : decode cJ7_fill_53178 11 = .ok (.iload_n 2, 1) := by decide +kernel
theorem dJ7_fill_53178_12 : decode cJ7_fill_53178 12 = .ok (.iload_n 1, 1) := by decide +kernel
theorem dJ7_fill_53178_13 : decode cJ7_fill_53178 13 = .ok (.iastore, 1) := by decide +kernel
theorem dJ7_fill_53178_14 : decode cJ7_fill_53178 14 = .ok (.iinc 2 1, 3) := by decide +kernel
theorem dJ7_fill_53178_17 : decode cJ7_fill_53178 17 = .ok (.goto (-12), 3) := by decide +kernel
theorem dJ7_fill_53178_20 : decode cJ7_fill_53178 20 = .ok (.return_, 1) := by decide +kernel
theorem dJ3_checkIndex_8e157_0 : decode cJ3_checkIndex_8e157 0 = .ok (.iload_n 0, 1) := by decide +kernel
theorem dJ3_checkIndex_8e157_1 : decode cJ3_checkIndex_8e157 1 = .ok (.ifCond .lt 8, 3) := by decide +kernel
theorem dJ3_checkIndex_8e157_4 : decode cJ3_checkIndex_8e157 4 = .ok (.iload_n 0, 1) := by decide +kernel
theorem dJ3_checkIndex_8e157_5 : decode cJ3_checkIndex_8e157 5 = .ok (.iload_n 1, 1) := by decide +kernel
theorem dJ3_checkIndex_8e157_6 : decode cJ3_checkIndex_8e157 6 = .ok (.if_icmp .lt 10, 3) := by decide +kernel
theorem dJ3_checkIndex_8e157_9 : decode cJ3_checkIndex_8e157 9 = .ok (.aload_n 2, 1) := by decide +kernel
theorem dJ3_checkIndex_8e157_10 : decode cJ3_checkIndex_8e157 10 = .ok (.iload_n 0, 1) := by decide +kernel
theorem dJ3_checkIndex_8e157_11 : decode cJ3_checkIndex_8e157 11 = .ok (.iload_n 1, 1) := by decide +kernel
theorem dJ3_checkIndex_8e157_12 : decode cJ3_checkIndex_8e157 12 = .ok (.invokestatic 95, 3) := by decide +kernel
theorem dJ3_checkIndex_8e157_15 : decode cJ3_checkIndex_8e157 15 = .ok (.athrow, 1) := by decide +kernel
theorem dJ3_checkIndex_8e157_16 : decode cJ3_checkIndex_8e157 16 = .ok (.iload_n 0, 1) := by decide +kernel
theorem dJ3_checkIndex_8e157_17 : decode cJ3_checkIndex_8e157 17 = .ok (.ireturn, 1) := by decide +kernel
theorem dL_shop_0 : decode cL_shop 0 = .ok (.aload_n 1, 1) := by decide +kernel
theorem dL_shop_1 : decode cL_shop 1 = .ok (.iconst 0, 1) := by decide +kernel
theorem dL_shop_2 : decode cL_shop 2 = .ok (.aload_n 0, 1) := by decide +kernel
theorem dL_shop_3 : decode cL_shop 3 = .ok (.invokevirtual 7, 3) := by decide +kernel
theorem dL_shop_6 : decode cL_shop 6 = .ok (.i2l, 1) := by decide +kernel
theorem dL_shop_7 : decode cL_shop 7 = .ok (.lastore, 1) := by decide +kernel
theorem dL_shop_8 : decode cL_shop 8 = .ok (.goto 9, 3) := by decide +kernel
theorem dL_shop_11 : decode cL_shop 11 = .ok (.astore_n 2, 1) := by decide +kernel
theorem dL_shop_12 : decode cL_shop 12 = .ok (.iconst 1, 1) := by decide +kernel
theorem dL_shop_13 : decode cL_shop 13 = .ok (.ireturn, 1) := by decide +kernel
theorem dL_shop_14 : decode cL_shop 14 = .ok (.astore_n 2, 1) := by decide +kernel
theorem dL_shop_15 : decode cL_shop 15 = .ok (.iconst 2, 1) := by decide +kernel
theorem dL_shop_16 : decode cL_shop 16 = .ok (.ireturn, 1) := by decide +kernel
theorem dL_shop_17 : decode cL_shop 17 = .ok (.iconst 0, 1) := by decide +kernel
theorem dL_shop_18 : decode cL_shop 18 = .ok (.ireturn, 1) := by decide +kernel
theorem dL_law_0 : decode cL_law 0 = .ok (.aload_n 1, 1) := by decide +kernel
theorem dL_law_1 : decode cL_law 1 = .ok (.iconst 0, 1) := by decide +kernel
theorem dL_law_2 : decode cL_law 2 = .ok (.aload_n 0, 1) := by decide +kernel
theorem dL_law_3 : decode cL_law 3 = .ok (.invokevirtual 17, 3) := by decide +kernel
theorem dL_law_6 : decode cL_law 6 = .ok (.i2l, 1) := by decide +kernel
theorem dL_law_7 : decode cL_law 7 = .ok (.lastore, 1) := by decide +kernel
theorem dL_law_8 : decode cL_law 8 = .ok (.goto 6, 3) := by decide +kernel
theorem dL_law_11 : decode cL_law 11 = .ok (.astore_n 2, 1) := by decide +kernel
theorem dL_law_12 : decode cL_law 12 = .ok (.iconst 1, 1) := by decide +kernel
theorem dL_law_13 : decode cL_law 13 = .ok (.ireturn, 1) := by decide +kernel
theorem dL_law_14 : decode cL_law 14 = .ok (.iconst 0, 1) := by decide +kernel
theorem dL_law_15 : decode cL_law 15 = .ok (.ireturn, 1) := by decide +kernel
theorem dL_sign_0 : decode cL_sign 0 = .ok (.aload_n 3, 1) := by decide +kernel
theorem dL_sign_1 : decode cL_sign 1 = .ok (.iconst 0, 1) := by decide +kernel
theorem dL_sign_2 : decode cL_sign 2 = .ok (.aload_n 0, 1) := by decide +kernel
theorem dL_sign_3 : decode cL_sign 3 = .ok (.iload_n 1, 1) := by decide +kernel
theorem dL_sign_4 : decode cL_sign 4 = .ok (.iload_n 2, 1) := by decide +kernel
theorem dL_sign_5 : decode cL_sign 5 = .ok (.invokevirtual 20, 3) := by decide +kernel
theorem dL_sign_8 : decode cL_sign 8 = .ok (.i2l, 1) := by decide +kernel
theorem dL_sign_9 : decode cL_sign 9 = .ok (.lastore, 1) := by decide +kernel
theorem dL_sign_10 : decode cL_sign 10 = .ok (.goto 11, 3) := by decide +kernel
theorem dL_sign_13 : decode cL_sign 13 = .ok (.astore 4, 2) := by decide +kernel
theorem dL_sign_15 : decode cL_sign 15 = .ok (.iconst 1, 1) := by decide +kernel
theorem dL_sign_16 : decode cL_sign 16 = .ok (.ireturn, 1) := by decide +kernel
theorem dL_sign_17 : decode cL_sign 17 = .ok (.astore 4, 2) := by decide +kernel
theorem dL_sign_19 : decode cL_sign 19 = .ok (.iconst 2, 1) := by decide +kernel
theorem dL_sign_20 : decode cL_sign 20 = .ok (.ireturn, 1) := by decide +kernel
theorem dL_sign_21 : decode cL_sign 21 = .ok (.iconst 0, 1) := by decide +kernel
theorem dL_sign_22 : decode cL_sign 22 = .ok (.ireturn, 1) := by decide +kernel
theorem dL_side_0 : decode cL_side 0 = .ok (.aload 4, 2) := by decide +kernel
theorem dL_side_2 : decode cL_side 2 = .ok (.iconst 0, 1) := by decide +kernel
theorem dL_side_3 : decode cL_side 3 = .ok (.aload_n 0, 1) := by decide +kernel
theorem dL_side_4 : decode cL_side 4 = .ok (.iload_n 1, 1) := by decide +kernel
theorem dL_side_5 : decode cL_side 5 = .ok (.iload_n 2, 1) := by decide +kernel
theorem dL_side_6 : decode cL_side 6 = .ok (.iload_n 3, 1) := by decide +kernel
theorem dL_side_7 : decode cL_side 7 = .ok (.invokevirtual 28, 3) := by decide +kernel
theorem dL_side_10 : decode cL_side 10 = .ok (.i2l, 1) := by decide +kernel
theorem dL_side_11 : decode cL_side 11 = .ok (.lastore, 1) := by decide +kernel
theorem dL_side_12 : decode cL_side 12 = .ok (.goto 7, 3) := by decide +kernel
theorem dL_side_15 : decode cL_side 15 = .ok (.astore 5, 2) := by decide +kernel
theorem dL_side_17 : decode cL_side 17 = .ok (.iconst 1, 1) := by decide +kernel
theorem dL_side_18 : decode cL_side 18 = .ok (.ireturn, 1) := by decide +kernel
theorem dL_side_19 : decode cL_side 19 = .ok (.iconst 0, 1) := by decide +kernel
theorem dL_side_20 : decode cL_side 20 = .ok (.ireturn, 1) := by decide +kernel
theorem dL_letter_0 : decode cL_letter 0 = .ok (.aload_n 3, 1) := by decide +kernel
theorem dL_letter_1 : decode cL_letter 1 = .ok (.iconst 0, 1) := by decide +kernel
theorem dL_letter_2 : decode cL_letter 2 = .ok (.aload_n 0, 1) := by decide +kernel
theorem dL_letter_3 : decode cL_letter 3 = .ok (.iload_n 1, 1) := by decide +kernel
theorem dL_letter_4 : decode cL_letter 4 = .ok (.iload_n 2, 1) := by decide +kernel
theorem dL_letter_5 : decode cL_letter 5 = .ok (.invokevirtual 32, 3) := by decide +kernel
theorem dL_letter_8 : decode cL_letter 8 = .ok (.i2l, 1) := by decide +kernel
theorem dL_letter_9 : decode cL_letter 9 = .ok (.lastore, 1) := by decide +kernel
theorem dL_letter_10 : decode cL_letter 10 = .ok (.goto 11, 3) := by decide +kernel
theorem dL_letter_13 : decode cL_letter 13 = .ok (.astore 4, 2) := by decide +kernel
theorem dL_letter_15 : decode cL_letter 15 = .ok (.iconst 1, 1) := by decide +kernel
theorem dL_letter_16 : decode cL_letter 16 = .ok (.ireturn, 1) := by decide +kernel
theorem dL_letter_17 : decode cL_letter 17 = .ok (.astore 4, 2) := by decide +kernel
theorem dL_letter_19 : decode cL_letter 19 = .ok (.iconst 2, 1) := by decide +kernel
theorem dL_letter_20 : decode cL_letter 20 = .ok (.ireturn, 1) := by decide +kernel
theorem dL_letter_21 : decode cL_letter 21 = .ok (.iconst 0, 1) := by decide +kernel
theorem dL_letter_22 : decode cL_letter 22 = .ok (.ireturn, 1) := by decide +kernel
theorem dL_gap_0 : decode cL_gap 0 = .ok (.aload_n 3, 1) := by decide +kernel
theorem dL_gap_1 : decode cL_gap 1 = .ok (.iconst 0, 1) := by decide +kernel
theorem dL_gap_2 : decode cL_gap 2 = .ok (.aload_n 0, 1) := by decide +kernel
theorem dL_gap_3 : decode cL_gap 3 = .ok (.iload_n 1, 1) := by decide +kernel
theorem dL_gap_4 : decode cL_gap 4 = .ok (.iload_n 2, 1) := by decide +kernel
theorem dL_gap_5 : decode cL_gap 5 = .ok (.invokevirtual 35, 3) := by decide +kernel
theorem dL_gap_8 : decode cL_gap 8 = .ok (.i2l, 1) := by decide +kernel
theorem dL_gap_9 : decode cL_gap 9 = .ok (.lastore, 1) := by decide +kernel
theorem dL_gap_10 : decode cL_gap 10 = .ok (.goto 11, 3) := by decide +kernel
theorem dL_gap_13 : decode cL_gap 13 = .ok (.astore 4, 2) := by decide +kernel
theorem dL_gap_15 : decode cL_gap 15 = .ok (.iconst 1, 1) := by decide +kernel
theorem dL_gap_16 : decode cL_gap 16 = .ok (.ireturn, 1) := by decide +kernel
theorem dL_gap_17 : decode cL_gap 17 = .ok (.astore 4, 2) := by decide +kernel
theorem dL_gap_19 : decode cL_gap 19 = .ok (.iconst 2, 1) := by decide +kernel
theorem dL_gap_20 : decode cL_gap 20 = .ok (.ireturn, 1) := by decide +kernel
theorem dL_gap_21 : decode cL_gap 21 = .ok (.iconst 0, 1) := by decide +kernel
theorem dL_gap_22 : decode cL_gap 22 = .ok (.ireturn, 1) := by decide +kernel
theorem dL_row_0 : decode cL_row 0 = .ok (.aload 4, 2) := by decide +kernel
theorem dL_row_2 : decode cL_row 2 = .ok (.iconst 0, 1) := by decide +kernel
theorem dL_row_3 : decode cL_row 3 = .ok (.aload_n 0, 1) := by decide +kernel
theorem dL_row_4 : decode cL_row 4 = .ok (.iload_n 1, 1) := by decide +kernel
theorem dL_row_5 : decode cL_row 5 = .ok (.iload_n 2, 1) := by decide +kernel
theorem dL_row_6 : decode cL_row 6 = .ok (.iload_n 3, 1) := by decide +kernel
theorem dL_row_7 : decode cL_row 7 = .ok (.invokevirtual 38, 3) := by decide +kernel
theorem dL_row_10 : decode cL_row 10 = .ok (.i2l, 1) := by decide +kernel
theorem dL_row_11 : decode cL_row 11 = .ok (.lastore, 1) := by decide +kernel
theorem dL_row_12 : decode cL_row 12 = .ok (.goto 7, 3) := by decide +kernel
theorem dL_row_15 : decode cL_row 15 = .ok (.astore 5, 2) := by decide +kernel
theorem dL_row_17 : decode cL_row 17 = .ok (.iconst 1, 1) := by decide +kernel
theorem dL_row_18 : decode cL_row 18 = .ok (.ireturn, 1) := by decide +kernel
theorem dL_row_19 : decode cL_row 19 = .ok (.iconst 0, 1) := by decide +kernel
theorem dL_row_20 : decode cL_row 20 = .ok (.ireturn, 1) := by decide +kernel
theorem dL_fades_0 : decode cL_fades 0 = .ok (.aload_n 3, 1) := by decide +kernel
theorem dL_fades_1 : decode cL_fades 1 = .ok (.iconst 0, 1) := by decide +kernel
theorem dL_fades_2 : decode cL_fades 2 = .ok (.aload_n 0, 1) := by decide +kernel
theorem dL_fades_3 : decode cL_fades 3 = .ok (.iload_n 1, 1) := by decide +kernel
theorem dL_fades_4 : decode cL_fades 4 = .ok (.iload_n 2, 1) := by decide +kernel
theorem dL_fades_5 : decode cL_fades 5 = .ok (.invokevirtual 41, 3) := by decide +kernel
theorem dL_fades_8 : decode cL_fades 8 = .ok (.i2l, 1) := by decide +kernel
theorem dL_fades_9 : decode cL_fades 9 = .ok (.lastore, 1) := by decide +kernel
theorem dL_fades_10 : decode cL_fades 10 = .ok (.goto 7, 3) := by decide +kernel
theorem dL_fades_13 : decode cL_fades 13 = .ok (.astore 4, 2) := by decide +kernel
theorem dL_fades_15 : decode cL_fades 15 = .ok (.iconst 1, 1) := by decide +kernel
theorem dL_fades_16 : decode cL_fades 16 = .ok (.ireturn, 1) := by decide +kernel
theorem dL_fades_17 : decode cL_fades 17 = .ok (.iconst 0, 1) := by decide +kernel
theorem dL_fades_18 : decode cL_fades 18 = .ok (.ireturn, 1) := by decide +kernel
theorem dL_shift_0 : decode cL_shift 0 = .ok (.aload_n 3, 1) := by decide +kernel
theorem dL_shift_1 : decode cL_shift 1 = .ok (.iconst 0, 1) := by decide +kernel
theorem dL_shift_2 : decode cL_shift 2 = .ok (.aload_n 0, 1) := by decide +kernel
theorem dL_shift_3 : decode cL_shift 3 = .ok (.iload_n 1, 1) := by decide +kernel
theorem dL_shift_4 : decode cL_shift 4 = .ok (.iload_n 2, 1) := by decide +kernel
theorem dL_shift_5 : decode cL_shift 5 = .ok (.invokevirtual 44, 3) := by decide +kernel
theorem dL_shift_8 : decode cL_shift 8 = .ok (.i2l, 1) := by decide +kernel
theorem dL_shift_9 : decode cL_shift 9 = .ok (.lastore, 1) := by decide +kernel
theorem dL_shift_10 : decode cL_shift 10 = .ok (.goto 11, 3) := by decide +kernel
theorem dL_shift_13 : decode cL_shift 13 = .ok (.astore 4, 2) := by decide +kernel
theorem dL_shift_15 : decode cL_shift 15 = .ok (.iconst 1, 1) := by decide +kernel
theorem dL_shift_16 : decode cL_shift 16 = .ok (.ireturn, 1) := by decide +kernel
theorem dL_shift_17 : decode cL_shift 17 = .ok (.astore 4, 2) := by decide +kernel
theorem dL_shift_19 : decode cL_shift 19 = .ok (.iconst 2, 1) := by decide +kernel
theorem dL_shift_20 : decode cL_shift 20 = .ok (.ireturn, 1) := by decide +kernel
theorem dL_shift_21 : decode cL_shift 21 = .ok (.iconst 0, 1) := by decide +kernel
theorem dL_shift_22 : decode cL_shift 22 = .ok (.ireturn, 1) := by decide +kernel
theorem dL_squeezed_0 : decode cL_squeezed 0 = .ok (.aload_n 3, 1) := by decide +kernel
theorem dL_squeezed_1 : decode cL_squeezed 1 = .ok (.iconst 0, 1) := by decide +kernel
theorem dL_squeezed_2 : decode cL_squeezed 2 = .ok (.aload_n 0, 1) := by decide +kernel
theorem dL_squeezed_3 : decode cL_squeezed 3 = .ok (.iload_n 1, 1) := by decide +kernel
theorem dL_squeezed_4 : decode cL_squeezed 4 = .ok (.iload_n 2, 1) := by decide +kernel
theorem dL_squeezed_5 : decode cL_squeezed 5 = .ok (.invokevirtual 47, 3) := by decide +kernel
theorem dL_squeezed_8 : decode cL_squeezed 8 = .ok (.i2l, 1) := by decide +kernel
theorem dL_squeezed_9 : decode cL_squeezed 9 = .ok (.lastore, 1) := by decide +kernel
theorem dL_squeezed_10 : decode cL_squeezed 10 = .ok (.goto 11, 3) := by decide +kernel
theorem dL_squeezed_13 : decode cL_squeezed 13 = .ok (.astore 4, 2) := by decide +kernel
theorem dL_squeezed_15 : decode cL_squeezed 15 = .ok (.iconst 1, 1) := by decide +kernel
theorem dL_squeezed_16 : decode cL_squeezed 16 = .ok (.ireturn, 1) := by decide +kernel
theorem dL_squeezed_17 : decode cL_squeezed 17 = .ok (.astore 4, 2) := by decide +kernel
theorem dL_squeezed_19 : decode cL_squeezed 19 = .ok (.iconst 2, 1) := by decide +kernel
theorem dL_squeezed_20 : decode cL_squeezed 20 = .ok (.ireturn, 1) := by decide +kernel
theorem dL_squeezed_21 : decode cL_squeezed 21 = .ok (.iconst 0, 1) := by decide +kernel
theorem dL_squeezed_22 : decode cL_squeezed 22 = .ok (.ireturn, 1) := by decide +kernel
theorem dL_shadow_0 : decode cL_shadow 0 = .ok (.aload_n 2, 1) := by decide +kernel
theorem dL_shadow_1 : decode cL_shadow 1 = .ok (.iconst 0, 1) := by decide +kernel
theorem dL_shadow_2 : decode cL_shadow 2 = .ok (.aload_n 0, 1) := by decide +kernel
theorem dL_shadow_3 : decode cL_shadow 3 = .ok (.iload_n 1, 1) := by decide +kernel
theorem dL_shadow_4 : decode cL_shadow 4 = .ok (.invokevirtual 50, 3) := by decide +kernel
theorem dL_shadow_7 : decode cL_shadow 7 = .ok (.i2l, 1) := by decide +kernel
theorem dL_shadow_8 : decode cL_shadow 8 = .ok (.lastore, 1) := by decide +kernel
theorem dL_shadow_9 : decode cL_shadow 9 = .ok (.goto 6, 3) := by decide +kernel
theorem dL_shadow_12 : decode cL_shadow 12 = .ok (.astore_n 3, 1) := by decide +kernel
theorem dL_shadow_13 : decode cL_shadow 13 = .ok (.iconst 1, 1) := by decide +kernel
theorem dL_shadow_14 : decode cL_shadow 14 = .ok (.ireturn, 1) := by decide +kernel
theorem dL_shadow_15 : decode cL_shadow 15 = .ok (.iconst 0, 1) := by decide +kernel
theorem dL_shadow_16 : decode cL_shadow 16 = .ok (.ireturn, 1) := by decide +kernel
theorem dL_lays_0 : decode cL_lays 0 = .ok (.aload_n 2, 1) := by decide +kernel
theorem dL_lays_1 : decode cL_lays 1 = .ok (.iconst 0, 1) := by decide +kernel
theorem dL_lays_2 : decode cL_lays 2 = .ok (.aload_n 0, 1) := by decide +kernel
theorem dL_lays_3 : decode cL_lays 3 = .ok (.iload_n 1, 1) := by decide +kernel
theorem dL_lays_4 : decode cL_lays 4 = .ok (.invokevirtual 54, 3) := by decide +kernel
theorem dL_lays_7 : decode cL_lays 7 = .ok (.i2l, 1) := by decide +kernel
theorem dL_lays_8 : decode cL_lays 8 = .ok (.lastore, 1) := by decide +kernel
theorem dL_lays_9 : decode cL_lays 9 = .ok (.goto 9, 3) := by decide +kernel
theorem dL_lays_12 : decode cL_lays 12 = .ok (.astore_n 3, 1) := by decide +kernel
theorem dL_lays_13 : decode cL_lays 13 = .ok (.iconst 1, 1) := by decide +kernel
theorem dL_lays_14 : decode cL_lays 14 = .ok (.ireturn, 1) := by decide +kernel
theorem dL_lays_15 : decode cL_lays 15 = .ok (.astore_n 3, 1) := by decide +kernel
theorem dL_lays_16 : decode cL_lays 16 = .ok (.iconst 2, 1) := by decide +kernel
theorem dL_lays_17 : decode cL_lays 17 = .ok (.ireturn, 1) := by decide +kernel
theorem dL_lays_18 : decode cL_lays 18 = .ok (.iconst 0, 1) := by decide +kernel
theorem dL_lays_19 : decode cL_lays 19 = .ok (.ireturn, 1) := by decide +kernel
theorem dL_paint_0 : decode cL_paint 0 = .ok (.aload_n 2, 1) := by decide +kernel
theorem dL_paint_1 : decode cL_paint 1 = .ok (.iconst 0, 1) := by decide +kernel
theorem dL_paint_2 : decode cL_paint 2 = .ok (.aload_n 0, 1) := by decide +kernel
theorem dL_paint_3 : decode cL_paint 3 = .ok (.iload_n 1, 1) := by decide +kernel
theorem dL_paint_4 : decode cL_paint 4 = .ok (.invokevirtual 59, 3) := by decide +kernel
theorem dL_paint_7 : decode cL_paint 7 = .ok (.i2l, 1) := by decide +kernel
theorem dL_paint_8 : decode cL_paint 8 = .ok (.lastore, 1) := by decide +kernel
theorem dL_paint_9 : decode cL_paint 9 = .ok (.goto 6, 3) := by decide +kernel
theorem dL_paint_12 : decode cL_paint 12 = .ok (.astore_n 3, 1) := by decide +kernel
theorem dL_paint_13 : decode cL_paint 13 = .ok (.iconst 1, 1) := by decide +kernel
theorem dL_paint_14 : decode cL_paint 14 = .ok (.ireturn, 1) := by decide +kernel
theorem dL_paint_15 : decode cL_paint 15 = .ok (.iconst 0, 1) := by decide +kernel
theorem dL_paint_16 : decode cL_paint 16 = .ok (.ireturn, 1) := by decide +kernel
theorem dL_off_0 : decode cL_off 0 = .ok (.aload_n 2, 1) := by decide +kernel
theorem dL_off_1 : decode cL_off 1 = .ok (.iconst 0, 1) := by decide +kernel
theorem dL_off_2 : decode cL_off 2 = .ok (.aload_n 0, 1) := by decide +kernel
theorem dL_off_3 : decode cL_off 3 = .ok (.iload_n 1, 1) := by decide +kernel
theorem dL_off_4 : decode cL_off 4 = .ok (.invokevirtual 62, 3) := by decide +kernel
theorem dL_off_7 : decode cL_off 7 = .ok (.i2l, 1) := by decide +kernel
theorem dL_off_8 : decode cL_off 8 = .ok (.lastore, 1) := by decide +kernel
theorem dL_off_9 : decode cL_off 9 = .ok (.goto 6, 3) := by decide +kernel
theorem dL_off_12 : decode cL_off 12 = .ok (.astore_n 3, 1) := by decide +kernel
theorem dL_off_13 : decode cL_off 13 = .ok (.iconst 1, 1) := by decide +kernel
theorem dL_off_14 : decode cL_off 14 = .ok (.ireturn, 1) := by decide +kernel
theorem dL_off_15 : decode cL_off 15 = .ok (.iconst 0, 1) := by decide +kernel
theorem dL_off_16 : decode cL_off 16 = .ok (.ireturn, 1) := by decide +kernel
theorem dL_laid_0 : decode cL_laid 0 = .ok (.aload_n 3, 1) := by decide +kernel
theorem dL_laid_1 : decode cL_laid 1 = .ok (.iconst 0, 1) := by decide +kernel
theorem dL_laid_2 : decode cL_laid 2 = .ok (.aload_n 0, 1) := by decide +kernel
theorem dL_laid_3 : decode cL_laid 3 = .ok (.iload_n 1, 1) := by decide +kernel
theorem dL_laid_4 : decode cL_laid 4 = .ok (.iload_n 2, 1) := by decide +kernel
theorem dL_laid_5 : decode cL_laid 5 = .ok (.invokevirtual 65, 3) := by decide +kernel
theorem dL_laid_8 : decode cL_laid 8 = .ok (.i2l, 1) := by decide +kernel
theorem dL_laid_9 : decode cL_laid 9 = .ok (.lastore, 1) := by decide +kernel
theorem dL_laid_10 : decode cL_laid 10 = .ok (.goto 7, 3) := by decide +kernel
theorem dL_laid_13 : decode cL_laid 13 = .ok (.astore 4, 2) := by decide +kernel
theorem dL_laid_15 : decode cL_laid 15 = .ok (.iconst 1, 1) := by decide +kernel
theorem dL_laid_16 : decode cL_laid 16 = .ok (.ireturn, 1) := by decide +kernel
theorem dL_laid_17 : decode cL_laid 17 = .ok (.iconst 0, 1) := by decide +kernel
theorem dL_laid_18 : decode cL_laid 18 = .ok (.ireturn, 1) := by decide +kernel
theorem dL_nearest_0 : decode cL_nearest 0 = .ok (.aload_n 3, 1) := by decide +kernel
theorem dL_nearest_1 : decode cL_nearest 1 = .ok (.iconst 0, 1) := by decide +kernel
theorem dL_nearest_2 : decode cL_nearest 2 = .ok (.aload_n 0, 1) := by decide +kernel
theorem dL_nearest_3 : decode cL_nearest 3 = .ok (.iload_n 1, 1) := by decide +kernel
theorem dL_nearest_4 : decode cL_nearest 4 = .ok (.iload_n 2, 1) := by decide +kernel
theorem dL_nearest_5 : decode cL_nearest 5 = .ok (.invokevirtual 68, 3) := by decide +kernel
theorem dL_nearest_8 : decode cL_nearest 8 = .ok (.i2l, 1) := by decide +kernel
theorem dL_nearest_9 : decode cL_nearest 9 = .ok (.lastore, 1) := by decide +kernel
theorem dL_nearest_10 : decode cL_nearest 10 = .ok (.goto 11, 3) := by decide +kernel
theorem dL_nearest_13 : decode cL_nearest 13 = .ok (.astore 4, 2) := by decide +kernel
theorem dL_nearest_15 : decode cL_nearest 15 = .ok (.iconst 1, 1) := by decide +kernel
theorem dL_nearest_16 : decode cL_nearest 16 = .ok (.ireturn, 1) := by decide +kernel
theorem dL_nearest_17 : decode cL_nearest 17 = .ok (.astore 4, 2) := by decide +kernel
theorem dL_nearest_19 : decode cL_nearest 19 = .ok (.iconst 2, 1) := by decide +kernel
theorem dL_nearest_20 : decode cL_nearest 20 = .ok (.ireturn, 1) := by decide +kernel
theorem dL_nearest_21 : decode cL_nearest 21 = .ok (.iconst 0, 1) := by decide +kernel
theorem dL_nearest_22 : decode cL_nearest 22 = .ok (.ireturn, 1) := by decide +kernel
theorem dL_cannot_0 : decode cL_cannot 0 = .ok (.aload_n 2, 1) := by decide +kernel
theorem dL_cannot_1 : decode cL_cannot 1 = .ok (.iconst 0, 1) := by decide +kernel
theorem dL_cannot_2 : decode cL_cannot 2 = .ok (.aload_n 0, 1) := by decide +kernel
theorem dL_cannot_3 : decode cL_cannot 3 = .ok (.iload_n 1, 1) := by decide +kernel
theorem dL_cannot_4 : decode cL_cannot 4 = .ok (.invokevirtual 71, 3) := by decide +kernel
theorem dL_cannot_7 : decode cL_cannot 7 = .ok (.i2l, 1) := by decide +kernel
theorem dL_cannot_8 : decode cL_cannot 8 = .ok (.lastore, 1) := by decide +kernel
theorem dL_cannot_9 : decode cL_cannot 9 = .ok (.goto 6, 3) := by decide +kernel
theorem dL_cannot_12 : decode cL_cannot 12 = .ok (.astore_n 3, 1) := by decide +kernel
theorem dL_cannot_13 : decode cL_cannot 13 = .ok (.iconst 1, 1) := by decide +kernel
theorem dL_cannot_14 : decode cL_cannot 14 = .ok (.ireturn, 1) := by decide +kernel
theorem dL_cannot_15 : decode cL_cannot 15 = .ok (.iconst 0, 1) := by decide +kernel
theorem dL_cannot_16 : decode cL_cannot 16 = .ok (.ireturn, 1) := by decide +kernel
theorem dL_lacks_0 : decode cL_lacks 0 = .ok (.aload_n 2, 1) := by decide +kernel
theorem dL_lacks_1 : decode cL_lacks 1 = .ok (.iconst 0, 1) := by decide +kernel
theorem dL_lacks_2 : decode cL_lacks 2 = .ok (.aload_n 0, 1) := by decide +kernel
theorem dL_lacks_3 : decode cL_lacks 3 = .ok (.iload_n 1, 1) := by decide +kernel
theorem dL_lacks_4 : decode cL_lacks 4 = .ok (.invokevirtual 74, 3) := by decide +kernel
theorem dL_lacks_7 : decode cL_lacks 7 = .ok (.i2l, 1) := by decide +kernel
theorem dL_lacks_8 : decode cL_lacks 8 = .ok (.lastore, 1) := by decide +kernel
theorem dL_lacks_9 : decode cL_lacks 9 = .ok (.goto 6, 3) := by decide +kernel
theorem dL_lacks_12 : decode cL_lacks 12 = .ok (.astore_n 3, 1) := by decide +kernel
theorem dL_lacks_13 : decode cL_lacks 13 = .ok (.iconst 1, 1) := by decide +kernel
theorem dL_lacks_14 : decode cL_lacks 14 = .ok (.ireturn, 1) := by decide +kernel
theorem dL_lacks_15 : decode cL_lacks 15 = .ok (.iconst 0, 1) := by decide +kernel
theorem dL_lacks_16 : decode cL_lacks 16 = .ok (.ireturn, 1) := by decide +kernel
theorem dL_squeeze_0 : decode cL_squeeze 0 = .ok (.aload_n 3, 1) := by decide +kernel
theorem dL_squeeze_1 : decode cL_squeeze 1 = .ok (.iconst 0, 1) := by decide +kernel
theorem dL_squeeze_2 : decode cL_squeeze 2 = .ok (.aload_n 0, 1) := by decide +kernel
theorem dL_squeeze_3 : decode cL_squeeze 3 = .ok (.iload_n 1, 1) := by decide +kernel
theorem dL_squeeze_4 : decode cL_squeeze 4 = .ok (.iload_n 2, 1) := by decide +kernel
theorem dL_squeeze_5 : decode cL_squeeze 5 = .ok (.invokevirtual 77, 3) := by decide +kernel
theorem dL_squeeze_8 : decode cL_squeeze 8 = .ok (.i2l, 1) := by decide +kernel
theorem dL_squeeze_9 : decode cL_squeeze 9 = .ok (.lastore, 1) := by decide +kernel
theorem dL_squeeze_10 : decode cL_squeeze 10 = .ok (.goto 7, 3) := by decide +kernel
theorem dL_squeeze_13 : decode cL_squeeze 13 = .ok (.astore 4, 2) := by decide +kernel
theorem dL_squeeze_15 : decode cL_squeeze 15 = .ok (.iconst 1, 1) := by decide +kernel
theorem dL_squeeze_16 : decode cL_squeeze 16 = .ok (.ireturn, 1) := by decide +kernel
theorem dL_squeeze_17 : decode cL_squeeze 17 = .ok (.iconst 0, 1) := by decide +kernel
theorem dL_squeeze_18 : decode cL_squeeze 18 = .ok (.ireturn, 1) := by decide +kernel
theorem dL_dropped_0 : decode cL_dropped 0 = .ok (.aload_n 2, 1) := by decide +kernel
theorem dL_dropped_1 : decode cL_dropped 1 = .ok (.iconst 0, 1) := by decide +kernel
theorem dL_dropped_2 : decode cL_dropped 2 = .ok (.aload_n 0, 1) := by decide +kernel
theorem dL_dropped_3 : decode cL_dropped 3 = .ok (.iload_n 1, 1) := by decide +kernel
theorem dL_dropped_4 : decode cL_dropped 4 = .ok (.invokevirtual 81, 3) := by decide +kernel
theorem dL_dropped_7 : decode cL_dropped 7 = .ok (.i2l, 1) := by decide +kernel
theorem dL_dropped_8 : decode cL_dropped 8 = .ok (.lastore, 1) := by decide +kernel
theorem dL_dropped_9 : decode cL_dropped 9 = .ok (.goto 6, 3) := by decide +kernel
theorem dL_dropped_12 : decode cL_dropped 12 = .ok (.astore_n 3, 1) := by decide +kernel
theorem dL_dropped_13 : decode cL_dropped 13 = .ok (.iconst 1, 1) := by decide +kernel
theorem dL_dropped_14 : decode cL_dropped 14 = .ok (.ireturn, 1) := by decide +kernel
theorem dL_dropped_15 : decode cL_dropped 15 = .ok (.iconst 0, 1) := by decide +kernel
theorem dL_dropped_16 : decode cL_dropped 16 = .ok (.ireturn, 1) := by decide +kernel
theorem dL_read_0 : decode cL_read 0 = .ok (.aload_n 3, 1) := by decide +kernel
theorem dL_read_1 : decode cL_read 1 = .ok (.iconst 0, 1) := by decide +kernel
theorem dL_read_2 : decode cL_read 2 = .ok (.aload_n 0, 1) := by decide +kernel
theorem dL_read_3 : decode cL_read 3 = .ok (.iload_n 1, 1) := by decide +kernel
theorem dL_read_4 : decode cL_read 4 = .ok (.iload_n 2, 1) := by decide +kernel
theorem dL_read_5 : decode cL_read 5 = .ok (.invokevirtual 84, 3) := by decide +kernel
theorem dL_read_8 : decode cL_read 8 = .ok (.ifCond .eq 7, 3) := by decide +kernel
theorem dL_read_11 : decode cL_read 11 = .ok (.lconst 1, 1) := by decide +kernel
theorem dL_read_12 : decode cL_read 12 = .ok (.goto 4, 3) := by decide +kernel
theorem dL_read_15 : decode cL_read 15 = .ok (.lconst 0, 1) := by decide +kernel
theorem dL_read_16 : decode cL_read 16 = .ok (.lastore, 1) := by decide +kernel
theorem dL_read_17 : decode cL_read 17 = .ok (.goto 7, 3) := by decide +kernel
theorem dL_read_20 : decode cL_read 20 = .ok (.astore 4, 2) := by decide +kernel
theorem dL_read_22 : decode cL_read 22 = .ok (.iconst 1, 1) := by decide +kernel
theorem dL_read_23 : decode cL_read 23 = .ok (.ireturn, 1) := by decide +kernel
theorem dL_read_24 : decode cL_read 24 = .ok (.iconst 0, 1) := by decide +kernel
theorem dL_read_25 : decode cL_read 25 = .ok (.ireturn, 1) := by decide +kernel
theorem dL_far_0 : decode cL_far 0 = .ok (.aload_n 2, 1) := by decide +kernel
theorem dL_far_1 : decode cL_far 1 = .ok (.iconst 0, 1) := by decide +kernel
theorem dL_far_2 : decode cL_far 2 = .ok (.aload_n 0, 1) := by decide +kernel
theorem dL_far_3 : decode cL_far 3 = .ok (.iload_n 1, 1) := by decide +kernel
theorem dL_far_4 : decode cL_far 4 = .ok (.invokevirtual 88, 3) := by decide +kernel
theorem dL_far_7 : decode cL_far 7 = .ok (.i2l, 1) := by decide +kernel
theorem dL_far_8 : decode cL_far 8 = .ok (.lastore, 1) := by decide +kernel
theorem dL_far_9 : decode cL_far 9 = .ok (.goto 6, 3) := by decide +kernel
theorem dL_far_12 : decode cL_far 12 = .ok (.astore_n 3, 1) := by decide +kernel
theorem dL_far_13 : decode cL_far 13 = .ok (.iconst 1, 1) := by decide +kernel
theorem dL_far_14 : decode cL_far 14 = .ok (.ireturn, 1) := by decide +kernel
theorem dL_far_15 : decode cL_far 15 = .ok (.iconst 0, 1) := by decide +kernel
theorem dL_far_16 : decode cL_far 16 = .ok (.ireturn, 1) := by decide +kernel
theorem dL_runs_0 : decode cL_runs 0 = .ok (.aload_n 3, 1) := by decide +kernel
theorem dL_runs_1 : decode cL_runs 1 = .ok (.iconst 0, 1) := by decide +kernel
theorem dL_runs_2 : decode cL_runs 2 = .ok (.aload_n 0, 1) := by decide +kernel
theorem dL_runs_3 : decode cL_runs 3 = .ok (.iload_n 1, 1) := by decide +kernel
theorem dL_runs_4 : decode cL_runs 4 = .ok (.iload_n 2, 1) := by decide +kernel
theorem dL_runs_5 : decode cL_runs 5 = .ok (.invokevirtual 91, 3) := by decide +kernel
theorem dL_runs_8 : decode cL_runs 8 = .ok (.i2l, 1) := by decide +kernel
theorem dL_runs_9 : decode cL_runs 9 = .ok (.lastore, 1) := by decide +kernel
theorem dL_runs_10 : decode cL_runs 10 = .ok (.goto 7, 3) := by decide +kernel
theorem dL_runs_13 : decode cL_runs 13 = .ok (.astore 4, 2) := by decide +kernel
theorem dL_runs_15 : decode cL_runs 15 = .ok (.iconst 1, 1) := by decide +kernel
theorem dL_runs_16 : decode cL_runs 16 = .ok (.ireturn, 1) := by decide +kernel
theorem dL_runs_17 : decode cL_runs 17 = .ok (.iconst 0, 1) := by decide +kernel
theorem dL_runs_18 : decode cL_runs 18 = .ok (.ireturn, 1) := by decide +kernel
theorem dL_bears_0 : decode cL_bears 0 = .ok (.aload_n 3, 1) := by decide +kernel
theorem dL_bears_1 : decode cL_bears 1 = .ok (.iconst 0, 1) := by decide +kernel
theorem dL_bears_2 : decode cL_bears 2 = .ok (.aload_n 0, 1) := by decide +kernel
theorem dL_bears_3 : decode cL_bears 3 = .ok (.iload_n 1, 1) := by decide +kernel
theorem dL_bears_4 : decode cL_bears 4 = .ok (.iload_n 2, 1) := by decide +kernel
theorem dL_bears_5 : decode cL_bears 5 = .ok (.invokevirtual 94, 3) := by decide +kernel
theorem dL_bears_8 : decode cL_bears 8 = .ok (.i2l, 1) := by decide +kernel
theorem dL_bears_9 : decode cL_bears 9 = .ok (.lastore, 1) := by decide +kernel
theorem dL_bears_10 : decode cL_bears 10 = .ok (.goto 7, 3) := by decide +kernel
theorem dL_bears_13 : decode cL_bears 13 = .ok (.astore 4, 2) := by decide +kernel
theorem dL_bears_15 : decode cL_bears 15 = .ok (.iconst 1, 1) := by decide +kernel
theorem dL_bears_16 : decode cL_bears 16 = .ok (.ireturn, 1) := by decide +kernel
theorem dL_bears_17 : decode cL_bears 17 = .ok (.iconst 0, 1) := by decide +kernel
theorem dL_bears_18 : decode cL_bears 18 = .ok (.ireturn, 1) := by decide +kernel
theorem dL_aslant_0 : decode cL_aslant 0 = .ok (.aload_n 2, 1) := by decide +kernel
theorem dL_aslant_1 : decode cL_aslant 1 = .ok (.iconst 0, 1) := by decide +kernel
theorem dL_aslant_2 : decode cL_aslant 2 = .ok (.aload_n 0, 1) := by decide +kernel
theorem dL_aslant_3 : decode cL_aslant 3 = .ok (.iload_n 1, 1) := by decide +kernel
theorem dL_aslant_4 : decode cL_aslant 4 = .ok (.invokevirtual 97, 3) := by decide +kernel
theorem dL_aslant_7 : decode cL_aslant 7 = .ok (.i2l, 1) := by decide +kernel
theorem dL_aslant_8 : decode cL_aslant 8 = .ok (.lastore, 1) := by decide +kernel
theorem dL_aslant_9 : decode cL_aslant 9 = .ok (.goto 6, 3) := by decide +kernel
theorem dL_aslant_12 : decode cL_aslant 12 = .ok (.astore_n 3, 1) := by decide +kernel
theorem dL_aslant_13 : decode cL_aslant 13 = .ok (.iconst 1, 1) := by decide +kernel
theorem dL_aslant_14 : decode cL_aslant 14 = .ok (.ireturn, 1) := by decide +kernel
theorem dL_aslant_15 : decode cL_aslant 15 = .ok (.iconst 0, 1) := by decide +kernel
theorem dL_aslant_16 : decode cL_aslant 16 = .ok (.ireturn, 1) := by decide +kernel
theorem dL_ends_0 : decode cL_ends 0 = .ok (.aload_n 2, 1) := by decide +kernel
theorem dL_ends_1 : decode cL_ends 1 = .ok (.iconst 0, 1) := by decide +kernel
theorem dL_ends_2 : decode cL_ends 2 = .ok (.aload_n 0, 1) := by decide +kernel
theorem dL_ends_3 : decode cL_ends 3 = .ok (.iload_n 1, 1) := by decide +kernel
theorem dL_ends_4 : decode cL_ends 4 = .ok (.invokevirtual 100, 3) := by decide +kernel
theorem dL_ends_7 : decode cL_ends 7 = .ok (.i2l, 1) := by decide +kernel
theorem dL_ends_8 : decode cL_ends 8 = .ok (.lastore, 1) := by decide +kernel
theorem dL_ends_9 : decode cL_ends 9 = .ok (.goto 6, 3) := by decide +kernel
theorem dL_ends_12 : decode cL_ends 12 = .ok (.astore_n 3, 1) := by decide +kernel
theorem dL_ends_13 : decode cL_ends 13 = .ok (.iconst 1, 1) := by decide +kernel
theorem dL_ends_14 : decode cL_ends 14 = .ok (.ireturn, 1) := by decide +kernel
theorem dL_ends_15 : decode cL_ends 15 = .ok (.iconst 0, 1) := by decide +kernel
theorem dL_ends_16 : decode cL_ends 16 = .ok (.ireturn, 1) := by decide +kernel
theorem dL_wrote_0 : decode cL_wrote 0 = .ok (.aload_n 1, 1) := by decide +kernel
theorem dL_wrote_1 : decode cL_wrote 1 = .ok (.iconst 0, 1) := by decide +kernel
theorem dL_wrote_2 : decode cL_wrote 2 = .ok (.aload_n 0, 1) := by decide +kernel
theorem dL_wrote_3 : decode cL_wrote 3 = .ok (.invokevirtual 103, 3) := by decide +kernel
theorem dL_wrote_6 : decode cL_wrote 6 = .ok (.i2l, 1) := by decide +kernel
theorem dL_wrote_7 : decode cL_wrote 7 = .ok (.lastore, 1) := by decide +kernel
theorem dL_wrote_8 : decode cL_wrote 8 = .ok (.goto 6, 3) := by decide +kernel
theorem dL_wrote_11 : decode cL_wrote 11 = .ok (.astore_n 2, 1) := by decide +kernel
theorem dL_wrote_12 : decode cL_wrote 12 = .ok (.iconst 1, 1) := by decide +kernel
theorem dL_wrote_13 : decode cL_wrote 13 = .ok (.ireturn, 1) := by decide +kernel
theorem dL_wrote_14 : decode cL_wrote 14 = .ok (.iconst 0, 1) := by decide +kernel
theorem dL_wrote_15 : decode cL_wrote 15 = .ok (.ireturn, 1) := by decide +kernel
theorem dL_likely_0 : decode cL_likely 0 = .ok (.aload_n 2, 1) := by decide +kernel
theorem dL_likely_1 : decode cL_likely 1 = .ok (.iconst 0, 1) := by decide +kernel
theorem dL_likely_2 : decode cL_likely 2 = .ok (.aload_n 0, 1) := by decide +kernel
theorem dL_likely_3 : decode cL_likely 3 = .ok (.iload_n 1, 1) := by decide +kernel
theorem dL_likely_4 : decode cL_likely 4 = .ok (.invokevirtual 106, 3) := by decide +kernel
theorem dL_likely_7 : decode cL_likely 7 = .ok (.i2l, 1) := by decide +kernel
theorem dL_likely_8 : decode cL_likely 8 = .ok (.lastore, 1) := by decide +kernel
theorem dL_likely_9 : decode cL_likely 9 = .ok (.goto 9, 3) := by decide +kernel
theorem dL_likely_12 : decode cL_likely 12 = .ok (.astore_n 3, 1) := by decide +kernel
theorem dL_likely_13 : decode cL_likely 13 = .ok (.iconst 1, 1) := by decide +kernel
theorem dL_likely_14 : decode cL_likely 14 = .ok (.ireturn, 1) := by decide +kernel
theorem dL_likely_15 : decode cL_likely 15 = .ok (.astore_n 3, 1) := by decide +kernel
theorem dL_likely_16 : decode cL_likely 16 = .ok (.iconst 2, 1) := by decide +kernel
theorem dL_likely_17 : decode cL_likely 17 = .ok (.ireturn, 1) := by decide +kernel
theorem dL_likely_18 : decode cL_likely 18 = .ok (.iconst 0, 1) := by decide +kernel
theorem dL_likely_19 : decode cL_likely 19 = .ok (.ireturn, 1) := by decide +kernel
theorem dL_inch_0 : decode cL_inch 0 = .ok (.aload_n 2, 1) := by decide +kernel
theorem dL_inch_1 : decode cL_inch 1 = .ok (.iconst 0, 1) := by decide +kernel
theorem dL_inch_2 : decode cL_inch 2 = .ok (.aload_n 0, 1) := by decide +kernel
theorem dL_inch_3 : decode cL_inch 3 = .ok (.iload_n 1, 1) := by decide +kernel
theorem dL_inch_4 : decode cL_inch 4 = .ok (.invokevirtual 109, 3) := by decide +kernel
theorem dL_inch_7 : decode cL_inch 7 = .ok (.i2l, 1) := by decide +kernel
theorem dL_inch_8 : decode cL_inch 8 = .ok (.lastore, 1) := by decide +kernel
theorem dL_inch_9 : decode cL_inch 9 = .ok (.goto 6, 3) := by decide +kernel
theorem dL_inch_12 : decode cL_inch 12 = .ok (.astore_n 3, 1) := by decide +kernel
theorem dL_inch_13 : decode cL_inch 13 = .ok (.iconst 1, 1) := by decide +kernel
theorem dL_inch_14 : decode cL_inch 14 = .ok (.ireturn, 1) := by decide +kernel
theorem dL_inch_15 : decode cL_inch 15 = .ok (.iconst 0, 1) := by decide +kernel
theorem dL_inch_16 : decode cL_inch 16 = .ok (.ireturn, 1) := by decide +kernel
theorem dL_trial_0 : decode cL_trial 0 = .ok (.aload 4, 2) := by decide +kernel
theorem dL_trial_2 : decode cL_trial 2 = .ok (.iconst 0, 1) := by decide +kernel
theorem dL_trial_3 : decode cL_trial 3 = .ok (.aload_n 0, 1) := by decide +kernel
theorem dL_trial_4 : decode cL_trial 4 = .ok (.iload_n 1, 1) := by decide +kernel
theorem dL_trial_5 : decode cL_trial 5 = .ok (.iload_n 2, 1) := by decide +kernel
theorem dL_trial_6 : decode cL_trial 6 = .ok (.iload_n 3, 1) := by decide +kernel
theorem dL_trial_7 : decode cL_trial 7 = .ok (.invokevirtual 112, 3) := by decide +kernel
theorem dL_trial_10 : decode cL_trial 10 = .ok (.i2l, 1) := by decide +kernel
theorem dL_trial_11 : decode cL_trial 11 = .ok (.lastore, 1) := by decide +kernel
theorem dL_trial_12 : decode cL_trial 12 = .ok (.goto 11, 3) := by decide +kernel
theorem dL_trial_15 : decode cL_trial 15 = .ok (.astore 5, 2) := by decide +kernel
theorem dL_trial_17 : decode cL_trial 17 = .ok (.iconst 1, 1) := by decide +kernel
theorem dL_trial_18 : decode cL_trial 18 = .ok (.ireturn, 1) := by decide +kernel
theorem dL_trial_19 : decode cL_trial 19 = .ok (.astore 5, 2) := by decide +kernel
theorem dL_trial_21 : decode cL_trial 21 = .ok (.iconst 2, 1) := by decide +kernel
theorem dL_trial_22 : decode cL_trial 22 = .ok (.ireturn, 1) := by decide +kernel
theorem dL_trial_23 : decode cL_trial 23 = .ok (.iconst 0, 1) := by decide +kernel
theorem dL_trial_24 : decode cL_trial 24 = .ok (.ireturn, 1) := by decide +kernel
theorem dL_span_0 : decode cL_span 0 = .ok (.aload 4, 2) := by decide +kernel
theorem dL_span_2 : decode cL_span 2 = .ok (.iconst 0, 1) := by decide +kernel
theorem dL_span_3 : decode cL_span 3 = .ok (.aload_n 0, 1) := by decide +kernel
theorem dL_span_4 : decode cL_span 4 = .ok (.iload_n 1, 1) := by decide +kernel
theorem dL_span_5 : decode cL_span 5 = .ok (.iload_n 2, 1) := by decide +kernel
theorem dL_span_6 : decode cL_span 6 = .ok (.iload_n 3, 1) := by decide +kernel
theorem dL_span_7 : decode cL_span 7 = .ok (.invokevirtual 115, 3) := by decide +kernel
theorem dL_span_10 : decode cL_span 10 = .ok (.i2l, 1) := by decide +kernel
theorem dL_span_11 : decode cL_span 11 = .ok (.lastore, 1) := by decide +kernel
theorem dL_span_12 : decode cL_span 12 = .ok (.goto 11, 3) := by decide +kernel
theorem dL_span_15 : decode cL_span 15 = .ok (.astore 5, 2) := by decide +kernel
theorem dL_span_17 : decode cL_span 17 = .ok (.iconst 1, 1) := by decide +kernel
theorem dL_span_18 : decode cL_span 18 = .ok (.ireturn, 1) := by decide +kernel
theorem dL_span_19 : decode cL_span 19 = .ok (.astore 5, 2) := by decide +kernel
theorem dL_span_21 : decode cL_span 21 = .ok (.iconst 2, 1) := by decide +kernel
theorem dL_span_22 : decode cL_span 22 = .ok (.ireturn, 1) := by decide +kernel
theorem dL_span_23 : decode cL_span 23 = .ok (.iconst 0, 1) := by decide +kernel
theorem dL_span_24 : decode cL_span 24 = .ok (.ireturn, 1) := by decide +kernel
theorem dL_slips_0 : decode cL_slips 0 = .ok (.aload_n 2, 1) := by decide +kernel
theorem dL_slips_1 : decode cL_slips 1 = .ok (.iconst 0, 1) := by decide +kernel
theorem dL_slips_2 : decode cL_slips 2 = .ok (.aload_n 0, 1) := by decide +kernel
theorem dL_slips_3 : decode cL_slips 3 = .ok (.iload_n 1, 1) := by decide +kernel
theorem dL_slips_4 : decode cL_slips 4 = .ok (.invokevirtual 118, 3) := by decide +kernel
theorem dL_slips_7 : decode cL_slips 7 = .ok (.i2l, 1) := by decide +kernel
theorem dL_slips_8 : decode cL_slips 8 = .ok (.lastore, 1) := by decide +kernel
theorem dL_slips_9 : decode cL_slips 9 = .ok (.goto 6, 3) := by decide +kernel
theorem dL_slips_12 : decode cL_slips 12 = .ok (.astore_n 3, 1) := by decide +kernel
theorem dL_slips_13 : decode cL_slips 13 = .ok (.iconst 1, 1) := by decide +kernel
theorem dL_slips_14 : decode cL_slips 14 = .ok (.ireturn, 1) := by decide +kernel
theorem dL_slips_15 : decode cL_slips 15 = .ok (.iconst 0, 1) := by decide +kernel
theorem dL_slips_16 : decode cL_slips 16 = .ok (.ireturn, 1) := by decide +kernel
theorem dL_log_0 : decode cL_log 0 = .ok (.aload_n 3, 1) := by decide +kernel
theorem dL_log_1 : decode cL_log 1 = .ok (.iconst 0, 1) := by decide +kernel
theorem dL_log_2 : decode cL_log 2 = .ok (.aload_n 0, 1) := by decide +kernel
theorem dL_log_3 : decode cL_log 3 = .ok (.iload_n 1, 1) := by decide +kernel
theorem dL_log_4 : decode cL_log 4 = .ok (.iload_n 2, 1) := by decide +kernel
theorem dL_log_5 : decode cL_log 5 = .ok (.invokevirtual 121, 3) := by decide +kernel
theorem dL_log_8 : decode cL_log 8 = .ok (.i2l, 1) := by decide +kernel
theorem dL_log_9 : decode cL_log 9 = .ok (.lastore, 1) := by decide +kernel
theorem dL_log_10 : decode cL_log 10 = .ok (.goto 7, 3) := by decide +kernel
theorem dL_log_13 : decode cL_log 13 = .ok (.astore 4, 2) := by decide +kernel
theorem dL_log_15 : decode cL_log 15 = .ok (.iconst 1, 1) := by decide +kernel
theorem dL_log_16 : decode cL_log 16 = .ok (.ireturn, 1) := by decide +kernel
theorem dL_log_17 : decode cL_log 17 = .ok (.iconst 0, 1) := by decide +kernel
theorem dL_log_18 : decode cL_log 18 = .ok (.ireturn, 1) := by decide +kernel
theorem dL_law__0 : decode cL_law_ 0 = .ok (.new 8, 3) := by decide +kernel
theorem dL_law__3 : decode cL_law_ 3 = .ok (.dup, 1) := by decide +kernel
theorem dL_law__4 : decode cL_law_ 4 = .ok (.invokespecial 124, 3) := by decide +kernel
theorem dL_law__7 : decode cL_law_ 7 = .ok (.astore_n 1, 1) := by decide +kernel
theorem dL_law__8 : decode cL_law_ 8 = .ok (.new 125, 3) := by decide +kernel
theorem dL_law__11 : decode cL_law_ 11 = .ok (.dup, 1) := by decide +kernel
theorem dL_law__12 : decode cL_law_ 12 = .ok (.invokespecial 127, 3) := by decide +kernel
theorem dL_law__15 : decode cL_law_ 15 = .ok (.astore_n 2, 1) := by decide +kernel
theorem dL_law__16 : decode cL_law_ 16 = .ok (.iconst 1, 1) := by decide +kernel
theorem dL_law__17 : decode cL_law_ 17 = .ok (.newarray .long, 2) := by decide +kernel
theorem dL_law__19 : decode cL_law_ 19 = .ok (.astore_n 3, 1) := by decide +kernel
theorem dL_law__20 : decode cL_law_ 20 = .ok (.iconst 0, 1) := by decide +kernel
theorem dL_law__21 : decode cL_law_ 21 = .ok (.istore 4, 2) := by decide +kernel
theorem dL_law__23 : decode cL_law_ 23 = .ok (.iload 4, 2) := by decide +kernel
theorem dL_law__25 : decode cL_law_ 25 = .ok (.aload_n 0, 1) := by decide +kernel
theorem dL_law__26 : decode cL_law_ 26 = .ok (.arraylength, 1) := by decide +kernel
theorem dL_law__27 : decode cL_law_ 27 = .ok (.bipush 6, 2) := by decide +kernel
theorem dL_law__29 : decode cL_law_ 29 = .ok (.isub, 1) := by decide +kernel
theorem dL_law__30 : decode cL_law_ 30 = .ok (.if_icmp .gt 2794, 3) := by decide +kernel
theorem dL_law__33 : decode cL_law_ 33 = .ok (.aload_n 0, 1) := by decide +kernel
theorem dL_law__34 : decode cL_law_ 34 = .ok (.iload 4, 2) := by decide +kernel
theorem dL_law__36 : decode cL_law_ 36 = .ok (.iaload, 1) := by decide +kernel
theorem dL_law__37 : decode cL_law_ 37 = .ok (.bipush 63, 2) := by decide +kernel
theorem dL_law__39 : decode cL_law_ 39 = .ok (.iand, 1) := by decide +kernel
theorem dL_law__40 : decode cL_law_ 40 = .ok (.tableswitch 2778 0 49 #[216, 289, 314, 358, 402, 415, 483, 579, 647, 715, 811, 879, 947, 1015, 1071, 1127, 1183, 1196, 1252, 1265, 1333, 1374, 1442, 1498, 1554, 1638, 1694, 1735, 1810, 1866, 1934, 2002, 2015, 2071, 2084, 2140, 2165, 2178, 2222, 2278, 2319, 2375, 2471, 2567, 2623, 2691, 2716, 2729, 2740, 2753], 216) := by decide +kernel
theorem dL_law__256 : decode cL_law_ 256 = .ok (.aload_n 1, 1) := by decide +kernel
theorem dL_law__257 : decode cL_law_ 257 = .ok (.aload_n 0, 1) := by decide +kernel
theorem dL_law__258 : decode cL_law_ 258 = .ok (.iload 4, 2) := by decide +kernel
theorem dL_law__260 : decode cL_law_ 260 = .ok (.iconst 1, 1) := by decide +kernel
theorem dL_law__261 : decode cL_law_ 261 = .ok (.iadd, 1) := by decide +kernel
theorem dL_law__262 : decode cL_law_ 262 = .ok (.iaload, 1) := by decide +kernel
theorem dL_law__263 : decode cL_law_ 263 = .ok (.aload_n 0, 1) := by decide +kernel
theorem dL_law__264 : decode cL_law_ 264 = .ok (.iload 4, 2) := by decide +kernel
theorem dL_law__266 : decode cL_law_ 266 = .ok (.iconst 2, 1) := by decide +kernel
theorem dL_law__267 : decode cL_law_ 267 = .ok (.iadd, 1) := by decide +kernel
theorem dL_law__268 : decode cL_law_ 268 = .ok (.iaload, 1) := by decide +kernel
theorem dL_law__269 : decode cL_law_ 269 = .ok (.aload_n 0, 1) := by decide +kernel
theorem dL_law__270 : decode cL_law_ 270 = .ok (.iload 4, 2) := by decide +kernel
theorem dL_law__272 : decode cL_law_ 272 = .ok (.iconst 3, 1) := by decide +kernel
theorem dL_law__273 : decode cL_law_ 273 = .ok (.iadd, 1) := by decide +kernel
theorem dL_law__274 : decode cL_law_ 274 = .ok (.iaload, 1) := by decide +kernel
theorem dL_law__275 : decode cL_law_ 275 = .ok (.aload_n 0, 1) := by decide +kernel
theorem dL_law__276 : decode cL_law_ 276 = .ok (.iload 4, 2) := by decide +kernel
theorem dL_law__278 : decode cL_law_ 278 = .ok (.iconst 4, 1) := by decide +kernel
theorem dL_law__279 : decode cL_law_ 279 = .ok (.iadd, 1) := by decide +kernel
theorem dL_law__280 : decode cL_law_ 280 = .ok (.iaload, 1) := by decide +kernel
theorem dL_law__281 : decode cL_law_ 281 = .ok (.aload_n 0, 1) := by decide +kernel
theorem dL_law__282 : decode cL_law_ 282 = .ok (.iload 4, 2) := by decide +kernel
theorem dL_law__284 : decode cL_law_ 284 = .ok (.iconst 5, 1) := by decide +kernel
theorem dL_law__285 : decode cL_law_ 285 = .ok (.iadd, 1) := by decide +kernel
theorem dL_law__286 : decode cL_law_ 286 = .ok (.iaload, 1) := by decide +kernel
theorem dL_law__287 : decode cL_law_ 287 = .ok (.invokevirtual 128, 3) := by decide +kernel
theorem dL_law__290 : decode cL_law_ 290 = .ok (.aload_n 2, 1) := by decide +kernel
theorem dL_law__291 : decode cL_law_ 291 = .ok (.aload_n 0, 1) := by decide +kernel
theorem dL_law__292 : decode cL_law_ 292 = .ok (.iload 4, 2) := by decide +kernel
theorem dL_law__294 : decode cL_law_ 294 = .ok (.iconst 1, 1) := by decide +kernel
theorem dL_law__295 : decode cL_law_ 295 = .ok (.iadd, 1) := by decide +kernel
theorem dL_law__296 : decode cL_law_ 296 = .ok (.iaload, 1) := by decide +kernel
theorem dL_law__297 : decode cL_law_ 297 = .ok (.aload_n 0, 1) := by decide +kernel
theorem dL_law__298 : decode cL_law_ 298 = .ok (.iload 4, 2) := by decide +kernel
theorem dL_law__300 : decode cL_law_ 300 = .ok (.iconst 2, 1) := by decide +kernel
theorem dL_law__301 : decode cL_law_ 301 = .ok (.iadd, 1) := by decide +kernel
theorem dL_law__302 : decode cL_law_ 302 = .ok (.iaload, 1) := by decide +kernel
theorem dL_law__303 : decode cL_law_ 303 = .ok (.aload_n 0, 1) := by decide +kernel
theorem dL_law__304 : decode cL_law_ 304 = .ok (.iload 4, 2) := by decide +kernel
theorem dL_law__306 : decode cL_law_ 306 = .ok (.iconst 3, 1) := by decide +kernel
theorem dL_law__307 : decode cL_law_ 307 = .ok (.iadd, 1) := by decide +kernel
theorem dL_law__308 : decode cL_law_ 308 = .ok (.iaload, 1) := by decide +kernel
theorem dL_law__309 : decode cL_law_ 309 = .ok (.aload_n 0, 1) := by decide +kernel
theorem dL_law__310 : decode cL_law_ 310 = .ok (.iload 4, 2) := by decide +kernel
theorem dL_law__312 : decode cL_law_ 312 = .ok (.iconst 4, 1) := by decide +kernel
theorem dL_law__313 : decode cL_law_ 313 = .ok (.iadd, 1) := by decide +kernel
theorem dL_law__314 : decode cL_law_ 314 = .ok (.iaload, 1) := by decide +kernel
theorem dL_law__315 : decode cL_law_ 315 = .ok (.aload_n 0, 1) := by decide +kernel
theorem dL_law__316 : decode cL_law_ 316 = .ok (.iload 4, 2) := by decide +kernel
theorem dL_law__318 : decode cL_law_ 318 = .ok (.iconst 5, 1) := by decide +kernel
theorem dL_law__319 : decode cL_law_ 319 = .ok (.iadd, 1) := by decide +kernel
theorem dL_law__320 : decode cL_law_ 320 = .ok (.iaload, 1) := by decide +kernel
theorem dL_law__321 : decode cL_law_ 321 = .ok (.invokevirtual 132, 3) := by decide +kernel
theorem dL_law__324 : decode cL_law_ 324 = .ok (.if_icmp .eq 2494, 3) := by decide +kernel
theorem dL_law__327 : decode cL_law_ 327 = .ok (.iconst 0, 1) := by decide +kernel
theorem dL_law__328 : decode cL_law_ 328 = .ok (.ireturn, 1) := by decide +kernel
theorem dL_law__329 : decode cL_law_ 329 = .ok (.aload_n 1, 1) := by decide +kernel
theorem dL_law__330 : decode cL_law_ 330 = .ok (.aload_n 0, 1) := by decide +kernel
theorem dL_law__331 : decode cL_law_ 331 = .ok (.iload 4, 2) := by decide +kernel
theorem dL_law__333 : decode cL_law_ 333 = .ok (.iconst 1, 1) := by decide +kernel
theorem dL_law__334 : decode cL_law_ 334 = .ok (.iadd, 1) := by decide +kernel
theorem dL_law__335 : decode cL_law_ 335 = .ok (.iaload, 1) := by decide +kernel
theorem dL_law__336 : decode cL_law_ 336 = .ok (.invokevirtual 133, 3) := by decide +kernel
theorem dL_law__339 : decode cL_law_ 339 = .ok (.aload_n 2, 1) := by decide +kernel
theorem dL_law__340 : decode cL_law_ 340 = .ok (.aload_n 0, 1) := by decide +kernel
theorem dL_law__341 : decode cL_law_ 341 = .ok (.iload 4, 2) := by decide +kernel
theorem dL_law__343 : decode cL_law_ 343 = .ok (.iconst 1, 1) := by decide +kernel
theorem dL_law__344 : decode cL_law_ 344 = .ok (.iadd, 1) := by decide +kernel
theorem dL_law__345 : decode cL_law_ 345 = .ok (.iaload, 1) := by decide +kernel
theorem dL_law__346 : decode cL_law_ 346 = .ok (.invokevirtual 137, 3) := by decide +kernel
theorem dL_law__349 : decode cL_law_ 349 = .ok (.if_icmp .eq 2469, 3) := by decide +kernel
theorem dL_law__352 : decode cL_law_ 352 = .ok (.iconst 0, 1) := by decide +kernel
theorem dL_law__353 : decode cL_law_ 353 = .ok (.ireturn, 1) := by decide +kernel
theorem dL_law__354 : decode cL_law_ 354 = .ok (.aload_n 1, 1) := by decide +kernel
theorem dL_law__355 : decode cL_law_ 355 = .ok (.aload_n 3, 1) := by decide +kernel
theorem dL_law__356 : decode cL_law_ 356 = .ok (.invokestatic 138, 3) := by decide +kernel
theorem dL_law__359 : decode cL_law_ 359 = .ok (.istore 5, 2) := by decide +kernel
theorem dL_law__361 : decode cL_law_ 361 = .ok (.aload_n 2, 1) := by decide +kernel
theorem dL_law__362 : decode cL_law_ 362 = .ok (.invokevirtual 143, 3) := by decide +kernel
theorem dL_law__365 : decode cL_law_ 365 = .ok (.istore 6, 2) := by decide +kernel
theorem dL_law__367 : decode cL_law_ 367 = .ok (.aload_n 2, 1) := by decide +kernel
theorem dL_law__368 : decode cL_law_ 368 = .ok (.invokevirtual 144, 3) := by decide +kernel
theorem dL_law__371 : decode cL_law_ 371 = .ok (.iload 5, 2) := by decide +kernel
theorem dL_law__373 : decode cL_law_ 373 = .ok (.if_icmp .eq 5, 3) := by decide +kernel
theorem dL_law__376 : decode cL_law_ 376 = .ok (.iconst 0, 1) := by decide +kernel
theorem dL_law__377 : decode cL_law_ 377 = .ok (.ireturn, 1) := by decide +kernel
theorem dL_law__378 : decode cL_law_ 378 = .ok (.iload 5, 2) := by decide +kernel
theorem dL_law__380 : decode cL_law_ 380 = .ok (.ifCond .ne 15, 3) := by decide +kernel
theorem dL_law__383 : decode cL_law_ 383 = .ok (.aload_n 3, 1) := by decide +kernel
theorem dL_law__384 : decode cL_law_ 384 = .ok (.iconst 0, 1) := by decide +kernel
theorem dL_law__385 : decode cL_law_ 385 = .ok (.laload, 1) := by decide +kernel
theorem dL_law__386 : decode cL_law_ 386 = .ok (.iload 6, 2) := by decide +kernel
theorem dL_law__388 : decode cL_law_ 388 = .ok (.i2l, 1) := by decide +kernel
theorem dL_law__389 : decode cL_law_ 389 = .ok (.lcmp, 1) := by decide +kernel
theorem dL_law__390 : decode cL_law_ 390 = .ok (.ifCond .eq 5, 3) := by decide +kernel
theorem dL_law__393 : decode cL_law_ 393 = .ok (.iconst 0, 1) := by decide +kernel
theorem dL_law__394 : decode cL_law_ 394 = .ok (.ireturn, 1) := by decide +kernel
theorem dL_law__395 : decode cL_law_ 395 = .ok (.goto 2423, 3) := by decide +kernel
theorem dL_law__398 : decode cL_law_ 398 = .ok (.aload_n 1, 1) := by decide +kernel
theorem dL_law__399 : decode cL_law_ 399 = .ok (.aload_n 3, 1) := by decide +kernel
theorem dL_law__400 : decode cL_law_ 400 = .ok (.invokestatic 147, 3) := by decide +kernel
theorem dL_law__403 : decode cL_law_ 403 = .ok (.istore 5, 2) := by decide +kernel
theorem dL_law__405 : decode cL_law_ 405 = .ok (.aload_n 2, 1) := by decide +kernel
theorem dL_law__406 : decode cL_law_ 406 = .ok (.invokevirtual 149, 3) := by decide +kernel
theorem dL_law__409 : decode cL_law_ 409 = .ok (.istore 6, 2) := by decide +kernel
theorem dL_law__411 : decode cL_law_ 411 = .ok (.aload_n 2, 1) := by decide +kernel
theorem dL_law__412 : decode cL_law_ 412 = .ok (.invokevirtual 144, 3) := by decide +kernel
theorem dL_law__415 : decode cL_law_ 415 = .ok (.iload 5, 2) := by decide +kernel
theorem dL_law__417 : decode cL_law_ 417 = .ok (.if_icmp .eq 5, 3) := by decide +kernel
theorem dL_law__420 : decode cL_law_ 420 = .ok (.iconst 0, 1) := by decide +kernel
theorem dL_law__421 : decode cL_law_ 421 = .ok (.ireturn, 1) := by decide +kernel
theorem dL_law__422 : decode cL_law_ 422 = .ok (.iload 5, 2) := by decide +kernel
theorem dL_law__424 : decode cL_law_ 424 = .ok (.ifCond .ne 15, 3) := by decide +kernel
theorem dL_law__427 : decode cL_law_ 427 = .ok (.aload_n 3, 1) := by decide +kernel
theorem dL_law__428 : decode cL_law_ 428 = .ok (.iconst 0, 1) := by decide +kernel
theorem dL_law__429 : decode cL_law_ 429 = .ok (.laload, 1) := by decide +kernel
theorem dL_law__430 : decode cL_law_ 430 = .ok (.iload 6, 2) := by decide +kernel
theorem dL_law__432 : decode cL_law_ 432 = .ok (.i2l, 1) := by decide +kernel
theorem dL_law__433 : decode cL_law_ 433 = .ok (.lcmp, 1) := by decide +kernel
theorem dL_law__434 : decode cL_law_ 434 = .ok (.ifCond .eq 5, 3) := by decide +kernel
theorem dL_law__437 : decode cL_law_ 437 = .ok (.iconst 0, 1) := by decide +kernel
theorem dL_law__438 : decode cL_law_ 438 = .ok (.ireturn, 1) := by decide +kernel
theorem dL_law__439 : decode cL_law_ 439 = .ok (.goto 2379, 3) := by decide +kernel
theorem dL_law__442 : decode cL_law_ 442 = .ok (.aload_n 1, 1) := by decide +kernel
theorem dL_law__443 : decode cL_law_ 443 = .ok (.invokevirtual 150, 3) := by decide +kernel
theorem dL_law__446 : decode cL_law_ 446 = .ok (.aload_n 2, 1) := by decide +kernel
theorem dL_law__447 : decode cL_law_ 447 = .ok (.invokevirtual 153, 3) := by decide +kernel
theorem dL_law__450 : decode cL_law_ 450 = .ok (.if_icmp .eq 2368, 3) := by decide +kernel
theorem dL_law__453 : decode cL_law_ 453 = .ok (.iconst 0, 1) := by decide +kernel
theorem dL_law__454 : decode cL_law_ 454 = .ok (.ireturn, 1) := by decide +kernel
theorem dL_law__455 : decode cL_law_ 455 = .ok (.aload_n 1, 1) := by decide +kernel
theorem dL_law__456 : decode cL_law_ 456 = .ok (.aload_n 0, 1) := by decide +kernel
theorem dL_law__457 : decode cL_law_ 457 = .ok (.iload 4, 2) := by decide +kernel
theorem dL_law__459 : decode cL_law_ 459 = .ok (.iconst 1, 1) := by decide +kernel
theorem dL_law__460 : decode cL_law_ 460 = .ok (.iadd, 1) := by decide +kernel
theorem dL_law__461 : decode cL_law_ 461 = .ok (.iaload, 1) := by decide +kernel
theorem dL_law__462 : decode cL_law_ 462 = .ok (.aload_n 0, 1) := by decide +kernel
theorem dL_law__463 : decode cL_law_ 463 = .ok (.iload 4, 2) := by decide +kernel
theorem dL_law__465 : decode cL_law_ 465 = .ok (.iconst 2, 1) := by decide +kernel
theorem dL_law__466 : decode cL_law_ 466 = .ok (.iadd, 1) := by decide +kernel
theorem dL_law__467 : decode cL_law_ 467 = .ok (.iaload, 1) := by decide +kernel
theorem dL_law__468 : decode cL_law_ 468 = .ok (.aload_n 3, 1) := by decide +kernel
theorem dL_law__469 : decode cL_law_ 469 = .ok (.invokestatic 154, 3) := by decide +kernel
theorem dL_law__472 : decode cL_law_ 472 = .ok (.istore 5, 2) := by decide +kernel
theorem dL_law__474 : decode cL_law_ 474 = .ok (.aload_n 2, 1) := by decide +kernel
theorem dL_law__475 : decode cL_law_ 475 = .ok (.aload_n 0, 1) := by decide +kernel
theorem dL_law__476 : decode cL_law_ 476 = .ok (.iload 4, 2) := by decide +kernel
theorem dL_law__478 : decode cL_law_ 478 = .ok (.iconst 1, 1) := by decide +kernel
theorem dL_law__479 : decode cL_law_ 479 = .ok (.iadd, 1) := by decide +kernel
theorem dL_law__480 : decode cL_law_ 480 = .ok (.iaload, 1) := by decide +kernel
theorem dL_law__481 : decode cL_law_ 481 = .ok (.aload_n 0, 1) := by decide +kernel
theorem dL_law__482 : decode cL_law_ 482 = .ok (.iload 4, 2) := by decide +kernel
theorem dL_law__484 : decode cL_law_ 484 = .ok (.iconst 2, 1) := by decide +kernel
theorem dL_law__485 : decode cL_law_ 485 = .ok (.iadd, 1) := by decide +kernel
theorem dL_law__486 : decode cL_law_ 486 = .ok (.iaload, 1) := by decide +kernel
theorem dL_law__487 : decode cL_law_ 487 = .ok (.invokevirtual 157, 3) := by decide +kernel
theorem dL_law__490 : decode cL_law_ 490 = .ok (.istore 6, 2) := by decide +kernel
theorem dL_law__492 : decode cL_law_ 492 = .ok (.aload_n 2, 1) := by decide +kernel
theorem dL_law__493 : decode cL_law_ 493 = .ok (.invokevirtual 144, 3) := by decide +kernel
theorem dL_law__496 : decode cL_law_ 496 = .ok (.iload 5, 2) := by decide +kernel
theorem dL_law__498 : decode cL_law_ 498 = .ok (.if_icmp .eq 5, 3) := by decide +kernel
theorem dL_law__501 : decode cL_law_ 501 = .ok (.iconst 0, 1) := by decide +kernel
theorem dL_law__502 : decode cL_law_ 502 = .ok (.ireturn, 1) := by decide +kernel
theorem dL_law__503 : decode cL_law_ 503 = .ok (.iload 5, 2) := by decide +kernel
theorem dL_law__505 : decode cL_law_ 505 = .ok (.ifCond .ne 15, 3) := by decide +kernel
theorem dL_law__508 : decode cL_law_ 508 = .ok (.aload_n 3, 1) := by decide +kernel
theorem dL_law__509 : decode cL_law_ 509 = .ok (.iconst 0, 1) := by decide +kernel
theorem dL_law__510 : decode cL_law_ 510 = .ok (.laload, 1) := by decide +kernel
theorem dL_law__511 : decode cL_law_ 511 = .ok (.iload 6, 2) := by decide +kernel
theorem dL_law__513 : decode cL_law_ 513 = .ok (.i2l, 1) := by decide +kernel
theorem dL_law__514 : decode cL_law_ 514 = .ok (.lcmp, 1) := by decide +kernel
theorem dL_law__515 : decode cL_law_ 515 = .ok (.ifCond .eq 5, 3) := by decide +kernel
theorem dL_law__518 : decode cL_law_ 518 = .ok (.iconst 0, 1) := by decide +kernel
theorem dL_law__519 : decode cL_law_ 519 = .ok (.ireturn, 1) := by decide +kernel
theorem dL_law__520 : decode cL_law_ 520 = .ok (.goto 2298, 3) := by decide +kernel
theorem dL_law__523 : decode cL_law_ 523 = .ok (.aload_n 1, 1) := by decide +kernel
theorem dL_law__524 : decode cL_law_ 524 = .ok (.aload_n 0, 1) := by decide +kernel
theorem dL_law__525 : decode cL_law_ 525 = .ok (.iload 4, 2) := by decide +kernel
theorem dL_law__527 : decode cL_law_ 527 = .ok (.iconst 1, 1) := by decide +kernel
theorem dL_law__528 : decode cL_law_ 528 = .ok (.iadd, 1) := by decide +kernel
theorem dL_law__529 : decode cL_law_ 529 = .ok (.iaload, 1) := by decide +kernel
theorem dL_law__530 : decode cL_law_ 530 = .ok (.aload_n 0, 1) := by decide +kernel
theorem dL_law__531 : decode cL_law_ 531 = .ok (.iload 4, 2) := by decide +kernel
theorem dL_law__533 : decode cL_law_ 533 = .ok (.iconst 2, 1) := by decide +kernel
theorem dL_law__534 : decode cL_law_ 534 = .ok (.iadd, 1) := by decide +kernel
theorem dL_law__535 : decode cL_law_ 535 = .ok (.iaload, 1) := by decide +kernel
theorem dL_law__536 : decode cL_law_ 536 = .ok (.aload_n 0, 1) := by decide +kernel
theorem dL_law__537 : decode cL_law_ 537 = .ok (.iload 4, 2) := by decide +kernel
theorem dL_law__539 : decode cL_law_ 539 = .ok (.iconst 3, 1) := by decide +kernel
theorem dL_law__540 : decode cL_law_ 540 = .ok (.iadd, 1) := by decide +kernel
theorem dL_law__541 : decode cL_law_ 541 = .ok (.iaload, 1) := by decide +kernel
theorem dL_law__542 : decode cL_law_ 542 = .ok (.ifCond .eq 7, 3) := by decide +kernel
theorem dL_law__545 : decode cL_law_ 545 = .ok (.iconst 1, 1) := by decide +kernel
theorem dL_law__546 : decode cL_law_ 546 = .ok (.goto 4, 3) := by decide +kernel
theorem dL_law__549 : decode cL_law_ 549 = .ok (.iconst 0, 1) := by decide +kernel
theorem dL_law__550 : decode cL_law_ 550 = .ok (.aload_n 3, 1) := by decide +kernel
theorem dL_law__551 : decode cL_law_ 551 = .ok (.invokestatic 158, 3) := by decide +kernel
theorem dL_law__554 : decode cL_law_ 554 = .ok (.istore 5, 2) := by decide +kernel
theorem dL_law__556 : decode cL_law_ 556 = .ok (.aload_n 2, 1) := by decide +kernel
theorem dL_law__557 : decode cL_law_ 557 = .ok (.aload_n 0, 1) := by decide +kernel
theorem dL_law__558 : decode cL_law_ 558 = .ok (.iload 4, 2) := by decide +kernel
theorem dL_law__560 : decode cL_law_ 560 = .ok (.iconst 1, 1) := by decide +kernel
theorem dL_law__561 : decode cL_law_ 561 = .ok (.iadd, 1) := by decide +kernel
theorem dL_law__562 : decode cL_law_ 562 = .ok (.iaload, 1) := by decide +kernel
theorem dL_law__563 : decode cL_law_ 563 = .ok (.aload_n 0, 1) := by decide +kernel
theorem dL_law__564 : decode cL_law_ 564 = .ok (.iload 4, 2) := by decide +kernel
theorem dL_law__566 : decode cL_law_ 566 = .ok (.iconst 2, 1) := by decide +kernel
theorem dL_law__567 : decode cL_law_ 567 = .ok (.iadd, 1) := by decide +kernel
theorem dL_law__568 : decode cL_law_ 568 = .ok (.iaload, 1) := by decide +kernel
theorem dL_law__569 : decode cL_law_ 569 = .ok (.aload_n 0, 1) := by decide +kernel
theorem dL_law__570 : decode cL_law_ 570 = .ok (.iload 4, 2) := by decide +kernel
theorem dL_law__572 : decode cL_law_ 572 = .ok (.iconst 3, 1) := by decide +kernel
theorem dL_law__573 : decode cL_law_ 573 = .ok (.iadd, 1) := by decide +kernel
theorem dL_law__574 : decode cL_law_ 574 = .ok (.iaload, 1) := by decide +kernel
theorem dL_law__575 : decode cL_law_ 575 = .ok (.ifCond .eq 7, 3) := by decide +kernel
theorem dL_law__578 : decode cL_law_ 578 = .ok (.iconst 1, 1) := by decide +kernel
theorem dL_law__579 : decode cL_law_ 579 = .ok (.goto 4, 3) := by decide +kernel
theorem dL_law__582 : decode cL_law_ 582 = .ok (.iconst 0, 1) := by decide +kernel
theorem dL_law__583 : decode cL_law_ 583 = .ok (.invokevirtual 161, 3) := by decide +kernel
theorem dL_law__586 : decode cL_law_ 586 = .ok (.istore 6, 2) := by decide +kernel
theorem dL_law__588 : decode cL_law_ 588 = .ok (.aload_n 2, 1) := by decide +kernel
theorem dL_law__589 : decode cL_law_ 589 = .ok (.invokevirtual 144, 3) := by decide +kernel
theorem dL_law__592 : decode cL_law_ 592 = .ok (.iload 5, 2) := by decide +kernel
theorem dL_law__594 : decode cL_law_ 594 = .ok (.if_icmp .eq 5, 3) := by decide +kernel
theorem dL_law__597 : decode cL_law_ 597 = .ok (.iconst 0, 1) := by decide +kernel
theorem dL_law__598 : decode cL_law_ 598 = .ok (.ireturn, 1) := by decide +kernel
theorem dL_law__599 : decode cL_law_ 599 = .ok (.iload 5, 2) := by decide +kernel
theorem dL_law__601 : decode cL_law_ 601 = .ok (.ifCond .ne 15, 3) := by decide +kernel
theorem dL_law__604 : decode cL_law_ 604 = .ok (.aload_n 3, 1) := by decide +kernel
theorem dL_law__605 : decode cL_law_ 605 = .ok (.iconst 0, 1) := by decide +kernel
theorem dL_law__606 : decode cL_law_ 606 = .ok (.laload, 1) := by decide +kernel
theorem dL_law__607 : decode cL_law_ 607 = .ok (.iload 6, 2) := by decide +kernel
theorem dL_law__609 : decode cL_law_ 609 = .ok (.i2l, 1) := by decide +kernel
theorem dL_law__610 : decode cL_law_ 610 = .ok (.lcmp, 1) := by decide +kernel
theorem dL_law__611 : decode cL_law_ 611 = .ok (.ifCond .eq 5, 3) := by decide +kernel
theorem dL_law__614 : decode cL_law_ 614 = .ok (.iconst 0, 1) := by decide +kernel
theorem dL_law__615 : decode cL_law_ 615 = .ok (.ireturn, 1) := by decide +kernel
theorem dL_law__616 : decode cL_law_ 616 = .ok (.goto 2202, 3) := by decide +kernel
theorem dL_law__619 : decode cL_law_ 619 = .ok (.aload_n 1, 1) := by decide +kernel
theorem dL_law__620 : decode cL_law_ 620 = .ok (.aload_n 0, 1) := by decide +kernel
theorem dL_law__621 : decode cL_law_ 621 = .ok (.iload 4, 2) := by decide +kernel
theorem dL_law__623 : decode cL_law_ 623 = .ok (.iconst 1, 1) := by decide +kernel
theorem dL_law__624 : decode cL_law_ 624 = .ok (.iadd, 1) := by decide +kernel
theorem dL_law__625 : decode cL_law_ 625 = .ok (.iaload, 1) := by decide +kernel
theorem dL_law__626 : decode cL_law_ 626 = .ok (.aload_n 0, 1) := by decide +kernel
theorem dL_law__627 : decode cL_law_ 627 = .ok (.iload 4, 2) := by decide +kernel
theorem dL_law__629 : decode cL_law_ 629 = .ok (.iconst 2, 1) := by decide +kernel
theorem dL_law__630 : decode cL_law_ 630 = .ok (.iadd, 1) := by decide +kernel
theorem dL_law__631 : decode cL_law_ 631 = .ok (.iaload, 1) := by decide +kernel
theorem dL_law__632 : decode cL_law_ 632 = .ok (.aload_n 3, 1) := by decide +kernel
theorem dL_law__633 : decode cL_law_ 633 = .ok (.invokestatic 162, 3) := by decide +kernel
theorem dL_law__636 : decode cL_law_ 636 = .ok (.istore 5, 2) := by decide +kernel
theorem dL_law__638 : decode cL_law_ 638 = .ok (.aload_n 2, 1) := by decide +kernel
theorem dL_law__639 : decode cL_law_ 639 = .ok (.aload_n 0, 1) := by decide +kernel
theorem dL_law__640 : decode cL_law_ 640 = .ok (.iload 4, 2) := by decide +kernel
theorem dL_law__642 : decode cL_law_ 642 = .ok (.iconst 1, 1) := by decide +kernel
theorem dL_law__643 : decode cL_law_ 643 = .ok (.iadd, 1) := by decide +kernel
theorem dL_law__644 : decode cL_law_ 644 = .ok (.iaload, 1) := by decide +kernel
theorem dL_law__645 : decode cL_law_ 645 = .ok (.aload_n 0, 1) := by decide +kernel
theorem dL_law__646 : decode cL_law_ 646 = .ok (.iload 4, 2) := by decide +kernel
theorem dL_law__648 : decode cL_law_ 648 = .ok (.iconst 2, 1) := by decide +kernel
theorem dL_law__649 : decode cL_law_ 649 = .ok (.iadd, 1) := by decide +kernel
theorem dL_law__650 : decode cL_law_ 650 = .ok (.iaload, 1) := by decide +kernel
theorem dL_law__651 : decode cL_law_ 651 = .ok (.invokevirtual 164, 3) := by decide +kernel
theorem dL_law__654 : decode cL_law_ 654 = .ok (.istore 6, 2) := by decide +kernel
theorem dL_law__656 : decode cL_law_ 656 = .ok (.aload_n 2, 1) := by decide +kernel
theorem dL_law__657 : decode cL_law_ 657 = .ok (.invokevirtual 144, 3) := by decide +kernel
theorem dL_law__660 : decode cL_law_ 660 = .ok (.iload 5, 2) := by decide +kernel
theorem dL_law__662 : decode cL_law_ 662 = .ok (.if_icmp .eq 5, 3) := by decide +kernel
theorem dL_law__665 : decode cL_law_ 665 = .ok (.iconst 0, 1) := by decide +kernel
theorem dL_law__666 : decode cL_law_ 666 = .ok (.ireturn, 1) := by decide +kernel
theorem dL_law__667 : decode cL_law_ 667 = .ok (.iload 5, 2) := by decide +kernel
theorem dL_law__669 : decode cL_law_ 669 = .ok (.ifCond .ne 15, 3) := by decide +kernel
theorem dL_law__672 : decode cL_law_ 672 = .ok (.aload_n 3, 1) := by decide +kernel
theorem dL_law__673 : decode cL_law_ 673 = .ok (.iconst 0, 1) := by decide +kernel
theorem dL_law__674 : decode cL_law_ 674 = .ok (.laload, 1) := by decide +kernel
theorem dL_law__675 : decode cL_law_ 675 = .ok (.iload 6, 2) := by decide +kernel
theorem dL_law__677 : decode cL_law_ 677 = .ok (.i2l, 1) := by decide +kernel
theorem dL_law__678 : decode cL_law_ 678 = .ok (.lcmp, 1) := by decide +kernel
theorem dL_law__679 : decode cL_law_ 679 = .ok (.ifCond .eq 5, 3) := by decide +kernel
theorem dL_law__682 : decode cL_law_ 682 = .ok (.iconst 0, 1) := by decide +kernel
theorem dL_law__683 : decode cL_law_ 683 = .ok (.ireturn, 1) := by decide +kernel
theorem dL_law__684 : decode cL_law_ 684 = .ok (.goto 2134, 3) := by decide +kernel
theorem dL_law__687 : decode cL_law_ 687 = .ok (.aload_n 1, 1) := by decide +kernel
theorem dL_law__688 : decode cL_law_ 688 = .ok (.aload_n 0, 1) := by decide +kernel
theorem dL_law__689 : decode cL_law_ 689 = .ok (.iload 4, 2) := by decide +kernel
theorem dL_law__691 : decode cL_law_ 691 = .ok (.iconst 1, 1) := by decide +kernel
theorem dL_law__692 : decode cL_law_ 692 = .ok (.iadd, 1) := by decide +kernel
theorem dL_law__693 : decode cL_law_ 693 = .ok (.iaload, 1) := by decide +kernel
theorem dL_law__694 : decode cL_law_ 694 = .ok (.aload_n 0, 1) := by decide +kernel
theorem dL_law__695 : decode cL_law_ 695 = .ok (.iload 4, 2) := by decide +kernel
theorem dL_law__697 : decode cL_law_ 697 = .ok (.iconst 2, 1) := by decide +kernel
theorem dL_law__698 : decode cL_law_ 698 = .ok (.iadd, 1) := by decide +kernel
theorem dL_law__699 : decode cL_law_ 699 = .ok (.iaload, 1) := by decide +kernel
theorem dL_law__700 : decode cL_law_ 700 = .ok (.aload_n 3, 1) := by decide +kernel
theorem dL_law__701 : decode cL_law_ 701 = .ok (.invokestatic 165, 3) := by decide +kernel
theorem dL_law__704 : decode cL_law_ 704 = .ok (.istore 5, 2) := by decide +kernel
theorem dL_law__706 : decode cL_law_ 706 = .ok (.aload_n 2, 1) := by decide +kernel
theorem dL_law__707 : decode cL_law_ 707 = .ok (.aload_n 0, 1) := by decide +kernel
theorem dL_law__708 : decode cL_law_ 708 = .ok (.iload 4, 2) := by decide +kernel
theorem dL_law__710 : decode cL_law_ 710 = .ok (.iconst 1, 1) := by decide +kernel
theorem dL_law__711 : decode cL_law_ 711 = .ok (.iadd, 1) := by decide +kernel
theorem dL_law__712 : decode cL_law_ 712 = .ok (.iaload, 1) := by decide +kernel
theorem dL_law__713 : decode cL_law_ 713 = .ok (.aload_n 0, 1) := by decide +kernel
theorem dL_law__714 : decode cL_law_ 714 = .ok (.iload 4, 2) := by decide +kernel
theorem dL_law__716 : decode cL_law_ 716 = .ok (.iconst 2, 1) := by decide +kernel
theorem dL_law__717 : decode cL_law_ 717 = .ok (.iadd, 1) := by decide +kernel
theorem dL_law__718 : decode cL_law_ 718 = .ok (.iaload, 1) := by decide +kernel
theorem dL_law__719 : decode cL_law_ 719 = .ok (.invokevirtual 167, 3) := by decide +kernel
theorem dL_law__722 : decode cL_law_ 722 = .ok (.istore 6, 2) := by decide +kernel
theorem dL_law__724 : decode cL_law_ 724 = .ok (.aload_n 2, 1) := by decide +kernel
theorem dL_law__725 : decode cL_law_ 725 = .ok (.invokevirtual 144, 3) := by decide +kernel
theorem dL_law__728 : decode cL_law_ 728 = .ok (.iload 5, 2) := by decide +kernel
theorem dL_law__730 : decode cL_law_ 730 = .ok (.if_icmp .eq 5, 3) := by decide +kernel
theorem dL_law__733 : decode cL_law_ 733 = .ok (.iconst 0, 1) := by decide +kernel
theorem dL_law__734 : decode cL_law_ 734 = .ok (.ireturn, 1) := by decide +kernel
theorem dL_law__735 : decode cL_law_ 735 = .ok (.iload 5, 2) := by decide +kernel
theorem dL_law__737 : decode cL_law_ 737 = .ok (.ifCond .ne 15, 3) := by decide +kernel
theorem dL_law__740 : decode cL_law_ 740 = .ok (.aload_n 3, 1) := by decide +kernel
theorem dL_law__741 : decode cL_law_ 741 = .ok (.iconst 0, 1) := by decide +kernel
theorem dL_law__742 : decode cL_law_ 742 = .ok (.laload, 1) := by decide +kernel
theorem dL_law__743 : decode cL_law_ 743 = .ok (.iload 6, 2) := by decide +kernel
theorem dL_law__745 : decode cL_law_ 745 = .ok (.i2l, 1) := by decide +kernel
theorem dL_law__746 : decode cL_law_ 746 = .ok (.lcmp, 1) := by decide +kernel
theorem dL_law__747 : decode cL_law_ 747 = .ok (.ifCond .eq 5, 3) := by decide +kernel
theorem dL_law__750 : decode cL_law_ 750 = .ok (.iconst 0, 1) := by decide +kernel
theorem dL_law__751 : decode cL_law_ 751 = .ok (.ireturn, 1) := by decide +kernel
theorem dL_law__752 : decode cL_law_ 752 = .ok (.goto 2066, 3) := by decide +kernel
theorem dL_law__755 : decode cL_law_ 755 = .ok (.aload_n 1, 1) := by decide +kernel
theorem dL_law__756 : decode cL_law_ 756 = .ok (.aload_n 0, 1) := by decide +kernel
theorem dL_law__757 : decode cL_law_ 757 = .ok (.iload 4, 2) := by decide +kernel
theorem dL_law__759 : decode cL_law_ 759 = .ok (.iconst 1, 1) := by decide +kernel
theorem dL_law__760 : decode cL_law_ 760 = .ok (.iadd, 1) := by decide +kernel
theorem dL_law__761 : decode cL_law_ 761 = .ok (.iaload, 1) := by decide +kernel
theorem dL_law__762 : decode cL_law_ 762 = .ok (.aload_n 0, 1) := by decide +kernel
theorem dL_law__763 : decode cL_law_ 763 = .ok (.iload 4, 2) := by decide +kernel
theorem dL_law__765 : decode cL_law_ 765 = .ok (.iconst 2, 1) := by decide +kernel
theorem dL_law__766 : decode cL_law_ 766 = .ok (.iadd, 1) := by decide +kernel
theorem dL_law__767 : decode cL_law_ 767 = .ok (.iaload, 1) := by decide +kernel
theorem dL_law__768 : decode cL_law_ 768 = .ok (.aload_n 0, 1) := by decide +kernel
theorem dL_law__769 : decode cL_law_ 769 = .ok (.iload 4, 2) := by decide +kernel
theorem dL_law__771 : decode cL_law_ 771 = .ok (.iconst 3, 1) := by decide +kernel
theorem dL_law__772 : decode cL_law_ 772 = .ok (.iadd, 1) := by decide +kernel
theorem dL_law__773 : decode cL_law_ 773 = .ok (.iaload, 1) := by decide +kernel
theorem dL_law__774 : decode cL_law_ 774 = .ok (.ifCond .eq 7, 3) := by decide +kernel
theorem dL_law__777 : decode cL_law_ 777 = .ok (.iconst 1, 1) := by decide +kernel
theorem dL_law__778 : decode cL_law_ 778 = .ok (.goto 4, 3) := by decide +kernel
theorem dL_law__781 : decode cL_law_ 781 = .ok (.iconst 0, 1) := by decide +kernel
theorem dL_law__782 : decode cL_law_ 782 = .ok (.aload_n 3, 1) := by decide +kernel
theorem dL_law__783 : decode cL_law_ 783 = .ok (.invokestatic 168, 3) := by decide +kernel
theorem dL_law__786 : decode cL_law_ 786 = .ok (.istore 5, 2) := by decide +kernel
theorem dL_law__788 : decode cL_law_ 788 = .ok (.aload_n 2, 1) := by decide +kernel
theorem dL_law__789 : decode cL_law_ 789 = .ok (.aload_n 0, 1) := by decide +kernel
theorem dL_law__790 : decode cL_law_ 790 = .ok (.iload 4, 2) := by decide +kernel
theorem dL_law__792 : decode cL_law_ 792 = .ok (.iconst 1, 1) := by decide +kernel
theorem dL_law__793 : decode cL_law_ 793 = .ok (.iadd, 1) := by decide +kernel
theorem dL_law__794 : decode cL_law_ 794 = .ok (.iaload, 1) := by decide +kernel
theorem dL_law__795 : decode cL_law_ 795 = .ok (.aload_n 0, 1) := by decide +kernel
theorem dL_law__796 : decode cL_law_ 796 = .ok (.iload 4, 2) := by decide +kernel
theorem dL_law__798 : decode cL_law_ 798 = .ok (.iconst 2, 1) := by decide +kernel
theorem dL_law__799 : decode cL_law_ 799 = .ok (.iadd, 1) := by decide +kernel
theorem dL_law__800 : decode cL_law_ 800 = .ok (.iaload, 1) := by decide +kernel
theorem dL_law__801 : decode cL_law_ 801 = .ok (.aload_n 0, 1) := by decide +kernel
theorem dL_law__802 : decode cL_law_ 802 = .ok (.iload 4, 2) := by decide +kernel
theorem dL_law__804 : decode cL_law_ 804 = .ok (.iconst 3, 1) := by decide +kernel
theorem dL_law__805 : decode cL_law_ 805 = .ok (.iadd, 1) := by decide +kernel
theorem dL_law__806 : decode cL_law_ 806 = .ok (.iaload, 1) := by decide +kernel
theorem dL_law__807 : decode cL_law_ 807 = .ok (.ifCond .eq 7, 3) := by decide +kernel
theorem dL_law__810 : decode cL_law_ 810 = .ok (.iconst 1, 1) := by decide +kernel
theorem dL_law__811 : decode cL_law_ 811 = .ok (.goto 4, 3) := by decide +kernel
theorem dL_law__814 : decode cL_law_ 814 = .ok (.iconst 0, 1) := by decide +kernel
theorem dL_law__815 : decode cL_law_ 815 = .ok (.invokevirtual 170, 3) := by decide +kernel
theorem dL_law__818 : decode cL_law_ 818 = .ok (.istore 6, 2) := by decide +kernel
theorem dL_law__820 : decode cL_law_ 820 = .ok (.aload_n 2, 1) := by decide +kernel
theorem dL_law__821 : decode cL_law_ 821 = .ok (.invokevirtual 144, 3) := by decide +kernel
theorem dL_law__824 : decode cL_law_ 824 = .ok (.iload 5, 2) := by decide +kernel
theorem dL_law__826 : decode cL_law_ 826 = .ok (.if_icmp .eq 5, 3) := by decide +kernel
theorem dL_law__829 : decode cL_law_ 829 = .ok (.iconst 0, 1) := by decide +kernel
theorem dL_law__830 : decode cL_law_ 830 = .ok (.ireturn, 1) := by decide +kernel
theorem dL_law__831 : decode cL_law_ 831 = .ok (.iload 5, 2) := by decide +kernel
theorem dL_law__833 : decode cL_law_ 833 = .ok (.ifCond .ne 15, 3) := by decide +kernel
theorem dL_law__836 : decode cL_law_ 836 = .ok (.aload_n 3, 1) := by decide +kernel
theorem dL_law__837 : decode cL_law_ 837 = .ok (.iconst 0, 1) := by decide +kernel
theorem dL_law__838 : decode cL_law_ 838 = .ok (.laload, 1) := by decide +kernel
theorem dL_law__839 : decode cL_law_ 839 = .ok (.iload 6, 2) := by decide +kernel
theorem dL_law__841 : decode cL_law_ 841 = .ok (.i2l, 1) := by decide +kernel
theorem dL_law__842 : decode cL_law_ 842 = .ok (.lcmp, 1) := by decide +kernel
theorem dL_law__843 : decode cL_law_ 843 = .ok (.ifCond .eq 5, 3) := by decide +kernel
theorem dL_law__846 : decode cL_law_ 846 = .ok (.iconst 0, 1) := by decide +kernel
theorem dL_law__847 : decode cL_law_ 847 = .ok (.ireturn, 1) := by decide +kernel
theorem dL_law__848 : decode cL_law_ 848 = .ok (.goto 1970, 3) := by decide +kernel
theorem dL_law__851 : decode cL_law_ 851 = .ok (.aload_n 1, 1) := by decide +kernel
theorem dL_law__852 : decode cL_law_ 852 = .ok (.aload_n 0, 1) := by decide +kernel
theorem dL_law__853 : decode cL_law_ 853 = .ok (.iload 4, 2) := by decide +kernel
theorem dL_law__855 : decode cL_law_ 855 = .ok (.iconst 1, 1) := by decide +kernel
theorem dL_law__856 : decode cL_law_ 856 = .ok (.iadd, 1) := by decide +kernel
theorem dL_law__857 : decode cL_law_ 857 = .ok (.iaload, 1) := by decide +kernel
theorem dL_law__858 : decode cL_law_ 858 = .ok (.aload_n 0, 1) := by decide +kernel
theorem dL_law__859 : decode cL_law_ 859 = .ok (.iload 4, 2) := by decide +kernel
theorem dL_law__861 : decode cL_law_ 861 = .ok (.iconst 2, 1) := by decide +kernel
theorem dL_law__862 : decode cL_law_ 862 = .ok (.iadd, 1) := by decide +kernel
theorem dL_law__863 : decode cL_law_ 863 = .ok (.iaload, 1) := by decide +kernel
theorem dL_law__864 : decode cL_law_ 864 = .ok (.aload_n 3, 1) := by decide +kernel
theorem dL_law__865 : decode cL_law_ 865 = .ok (.invokestatic 171, 3) := by decide +kernel
theorem dL_law__868 : decode cL_law_ 868 = .ok (.istore 5, 2) := by decide +kernel
theorem dL_law__870 : decode cL_law_ 870 = .ok (.aload_n 2, 1) := by decide +kernel
theorem dL_law__871 : decode cL_law_ 871 = .ok (.aload_n 0, 1) := by decide +kernel
theorem dL_law__872 : decode cL_law_ 872 = .ok (.iload 4, 2) := by decide +kernel
theorem dL_law__874 : decode cL_law_ 874 = .ok (.iconst 1, 1) := by decide +kernel
theorem dL_law__875 : decode cL_law_ 875 = .ok (.iadd, 1) := by decide +kernel
theorem dL_law__876 : decode cL_law_ 876 = .ok (.iaload, 1) := by decide +kernel
theorem dL_law__877 : decode cL_law_ 877 = .ok (.aload_n 0, 1) := by decide +kernel
theorem dL_law__878 : decode cL_law_ 878 = .ok (.iload 4, 2) := by decide +kernel
theorem dL_law__880 : decode cL_law_ 880 = .ok (.iconst 2, 1) := by decide +kernel
theorem dL_law__881 : decode cL_law_ 881 = .ok (.iadd, 1) := by decide +kernel
theorem dL_law__882 : decode cL_law_ 882 = .ok (.iaload, 1) := by decide +kernel
theorem dL_law__883 : decode cL_law_ 883 = .ok (.invokevirtual 173, 3) := by decide +kernel
theorem dL_law__886 : decode cL_law_ 886 = .ok (.istore 6, 2) := by decide +kernel
theorem dL_law__888 : decode cL_law_ 888 = .ok (.aload_n 2, 1) := by decide +kernel
theorem dL_law__889 : decode cL_law_ 889 = .ok (.invokevirtual 144, 3) := by decide +kernel
theorem dL_law__892 : decode cL_law_ 892 = .ok (.iload 5, 2) := by decide +kernel
theorem dL_law__894 : decode cL_law_ 894 = .ok (.if_icmp .eq 5, 3) := by decide +kernel
theorem dL_law__897 : decode cL_law_ 897 = .ok (.iconst 0, 1) := by decide +kernel
theorem dL_law__898 : decode cL_law_ 898 = .ok (.ireturn, 1) := by decide +kernel
theorem dL_law__899 : decode cL_law_ 899 = .ok (.iload 5, 2) := by decide +kernel
theorem dL_law__901 : decode cL_law_ 901 = .ok (.ifCond .ne 15, 3) := by decide +kernel
theorem dL_law__904 : decode cL_law_ 904 = .ok (.aload_n 3, 1) := by decide +kernel
theorem dL_law__905 : decode cL_law_ 905 = .ok (.iconst 0, 1) := by decide +kernel
theorem dL_law__906 : decode cL_law_ 906 = .ok (.laload, 1) := by decide +kernel
theorem dL_law__907 : decode cL_law_ 907 = .ok (.iload 6, 2) := by decide +kernel
theorem dL_law__909 : decode cL_law_ 909 = .ok (.i2l, 1) := by decide +kernel
theorem dL_law__910 : decode cL_law_ 910 = .ok (.lcmp, 1) := by decide +kernel
theorem dL_law__911 : decode cL_law_ 911 = .ok (.ifCond .eq 5, 3) := by decide +kernel
theorem dL_law__914 : decode cL_law_ 914 = .ok (.iconst 0, 1) := by decide +kernel
theorem dL_law__915 : decode cL_law_ 915 = .ok (.ireturn, 1) := by decide +kernel
theorem dL_law__916 : decode cL_law_ 916 = .ok (.goto 1902, 3) := by decide +kernel
theorem dL_law__919 : decode cL_law_ 919 = .ok (.aload_n 1, 1) := by decide +kernel
theorem dL_law__920 : decode cL_law_ 920 = .ok (.aload_n 0, 1) := by decide +kernel
theorem dL_law__921 : decode cL_law_ 921 = .ok (.iload 4, 2) := by decide +kernel
theorem dL_law__923 : decode cL_law_ 923 = .ok (.iconst 1, 1) := by decide +kernel
theorem dL_law__924 : decode cL_law_ 924 = .ok (.iadd, 1) := by decide +kernel
theorem dL_law__925 : decode cL_law_ 925 = .ok (.iaload, 1) := by decide +kernel
theorem dL_law__926 : decode cL_law_ 926 = .ok (.aload_n 0, 1) := by decide +kernel
theorem dL_law__927 : decode cL_law_ 927 = .ok (.iload 4, 2) := by decide +kernel
theorem dL_law__929 : decode cL_law_ 929 = .ok (.iconst 2, 1) := by decide +kernel
theorem dL_law__930 : decode cL_law_ 930 = .ok (.iadd, 1) := by decide +kernel
theorem dL_law__931 : decode cL_law_ 931 = .ok (.iaload, 1) := by decide +kernel
theorem dL_law__932 : decode cL_law_ 932 = .ok (.aload_n 3, 1) := by decide +kernel
theorem dL_law__933 : decode cL_law_ 933 = .ok (.invokestatic 174, 3) := by decide +kernel
theorem dL_law__936 : decode cL_law_ 936 = .ok (.istore 5, 2) := by decide +kernel
theorem dL_law__938 : decode cL_law_ 938 = .ok (.aload_n 2, 1) := by decide +kernel
theorem dL_law__939 : decode cL_law_ 939 = .ok (.aload_n 0, 1) := by decide +kernel
theorem dL_law__940 : decode cL_law_ 940 = .ok (.iload 4, 2) := by decide +kernel
theorem dL_law__942 : decode cL_law_ 942 = .ok (.iconst 1, 1) := by decide +kernel
theorem dL_law__943 : decode cL_law_ 943 = .ok (.iadd, 1) := by decide +kernel
theorem dL_law__944 : decode cL_law_ 944 = .ok (.iaload, 1) := by decide +kernel
theorem dL_law__945 : decode cL_law_ 945 = .ok (.aload_n 0, 1) := by decide +kernel
theorem dL_law__946 : decode cL_law_ 946 = .ok (.iload 4, 2) := by decide +kernel
theorem dL_law__948 : decode cL_law_ 948 = .ok (.iconst 2, 1) := by decide +kernel
theorem dL_law__949 : decode cL_law_ 949 = .ok (.iadd, 1) := by decide +kernel
theorem dL_law__950 : decode cL_law_ 950 = .ok (.iaload, 1) := by decide +kernel
theorem dL_law__951 : decode cL_law_ 951 = .ok (.invokevirtual 176, 3) := by decide +kernel
theorem dL_law__954 : decode cL_law_ 954 = .ok (.istore 6, 2) := by decide +kernel
theorem dL_law__956 : decode cL_law_ 956 = .ok (.aload_n 2, 1) := by decide +kernel
theorem dL_law__957 : decode cL_law_ 957 = .ok (.invokevirtual 144, 3) := by decide +kernel
theorem dL_law__960 : decode cL_law_ 960 = .ok (.iload 5, 2) := by decide +kernel
theorem dL_law__962 : decode cL_law_ 962 = .ok (.if_icmp .eq 5, 3) := by decide +kernel
theorem dL_law__965 : decode cL_law_ 965 = .ok (.iconst 0, 1) := by decide +kernel
theorem dL_law__966 : decode cL_law_ 966 = .ok (.ireturn, 1) := by decide +kernel
theorem dL_law__967 : decode cL_law_ 967 = .ok (.iload 5, 2) := by decide +kernel
theorem dL_law__969 : decode cL_law_ 969 = .ok (.ifCond .ne 15, 3) := by decide +kernel
theorem dL_law__972 : decode cL_law_ 972 = .ok (.aload_n 3, 1) := by decide +kernel
theorem dL_law__973 : decode cL_law_ 973 = .ok (.iconst 0, 1) := by decide +kernel
theorem dL_law__974 : decode cL_law_ 974 = .ok (.laload, 1) := by decide +kernel
theorem dL_law__975 : decode cL_law_ 975 = .ok (.iload 6, 2) := by decide +kernel
theorem dL_law__977 : decode cL_law_ 977 = .ok (.i2l, 1) := by decide +kernel
theorem dL_law__978 : decode cL_law_ 978 = .ok (.lcmp, 1) := by decide +kernel
theorem dL_law__979 : decode cL_law_ 979 = .ok (.ifCond .eq 5, 3) := by decide +kernel
theorem dL_law__982 : decode cL_law_ 982 = .ok (.iconst 0, 1) := by decide +kernel
theorem dL_law__983 : decode cL_law_ 983 = .ok (.ireturn, 1) := by decide +kernel
theorem dL_law__984 : decode cL_law_ 984 = .ok (.goto 1834, 3) := by decide +kernel
theorem dL_law__987 : decode cL_law_ 987 = .ok (.aload_n 1, 1) := by decide +kernel
theorem dL_law__988 : decode cL_law_ 988 = .ok (.aload_n 0, 1) := by decide +kernel
theorem dL_law__989 : decode cL_law_ 989 = .ok (.iload 4, 2) := by decide +kernel
theorem dL_law__991 : decode cL_law_ 991 = .ok (.iconst 1, 1) := by decide +kernel
theorem dL_law__992 : decode cL_law_ 992 = .ok (.iadd, 1) := by decide +kernel
theorem dL_law__993 : decode cL_law_ 993 = .ok (.iaload, 1) := by decide +kernel
theorem dL_law__994 : decode cL_law_ 994 = .ok (.aload_n 0, 1) := by decide +kernel
theorem dL_law__995 : decode cL_law_ 995 = .ok (.iload 4, 2) := by decide +kernel
theorem dL_law__997 : decode cL_law_ 997 = .ok (.iconst 2, 1) := by decide +kernel
theorem dL_law__998 : decode cL_law_ 998 = .ok (.iadd, 1) := by decide +kernel
theorem dL_law__999 : decode cL_law_ 999 = .ok (.iaload, 1) := by decide +kernel
theorem dL_law__1000 : decode cL_law_ 1000 = .ok (.aload_n 3, 1) := by decide +kernel
theorem dL_law__1001 : decode cL_law_ 1001 = .ok (.invokestatic 177, 3) := by decide +kernel
theorem dL_law__1004 : decode cL_law_ 1004 = .ok (.istore 5, 2) := by decide +kernel
theorem dL_law__1006 : decode cL_law_ 1006 = .ok (.aload_n 2, 1) := by decide +kernel
theorem dL_law__1007 : decode cL_law_ 1007 = .ok (.aload_n 0, 1) := by decide +kernel
theorem dL_law__1008 : decode cL_law_ 1008 = .ok (.iload 4, 2) := by decide +kernel
theorem dL_law__1010 : decode cL_law_ 1010 = .ok (.iconst 1, 1) := by decide +kernel
theorem dL_law__1011 : decode cL_law_ 1011 = .ok (.iadd, 1) := by decide +kernel
theorem dL_law__1012 : decode cL_law_ 1012 = .ok (.iaload, 1) := by decide +kernel
theorem dL_law__1013 : decode cL_law_ 1013 = .ok (.aload_n 0, 1) := by decide +kernel
theorem dL_law__1014 : decode cL_law_ 1014 = .ok (.iload 4, 2) := by decide +kernel
theorem dL_law__1016 : decode cL_law_ 1016 = .ok (.iconst 2, 1) := by decide +kernel
theorem dL_law__1017 : decode cL_law_ 1017 = .ok (.iadd, 1) := by decide +kernel
theorem dL_law__1018 : decode cL_law_ 1018 = .ok (.iaload, 1) := by decide +kernel
theorem dL_law__1019 : decode cL_law_ 1019 = .ok (.invokevirtual 179, 3) := by decide +kernel
theorem dL_law__1022 : decode cL_law_ 1022 = .ok (.istore 6, 2) := by decide +kernel
theorem dL_law__1024 : decode cL_law_ 1024 = .ok (.aload_n 2, 1) := by decide +kernel
theorem dL_law__1025 : decode cL_law_ 1025 = .ok (.invokevirtual 144, 3) := by decide +kernel
theorem dL_law__1028 : decode cL_law_ 1028 = .ok (.iload 5, 2) := by decide +kernel
theorem dL_law__1030 : decode cL_law_ 1030 = .ok (.if_icmp .eq 5, 3) := by decide +kernel
theorem dL_law__1033 : decode cL_law_ 1033 = .ok (.iconst 0, 1) := by decide +kernel
theorem dL_law__1034 : decode cL_law_ 1034 = .ok (.ireturn, 1) := by decide +kernel
theorem dL_law__1035 : decode cL_law_ 1035 = .ok (.iload 5, 2) := by decide +kernel
theorem dL_law__1037 : decode cL_law_ 1037 = .ok (.ifCond .ne 15, 3) := by decide +kernel
theorem dL_law__1040 : decode cL_law_ 1040 = .ok (.aload_n 3, 1) := by decide +kernel
theorem dL_law__1041 : decode cL_law_ 1041 = .ok (.iconst 0, 1) := by decide +kernel
theorem dL_law__1042 : decode cL_law_ 1042 = .ok (.laload, 1) := by decide +kernel
theorem dL_law__1043 : decode cL_law_ 1043 = .ok (.iload 6, 2) := by decide +kernel
theorem dL_law__1045 : decode cL_law_ 1045 = .ok (.i2l, 1) := by decide +kernel
theorem dL_law__1046 : decode cL_law_ 1046 = .ok (.lcmp, 1) := by decide +kernel
theorem dL_law__1047 : decode cL_law_ 1047 = .ok (.ifCond .eq 5, 3) := by decide +kernel
theorem dL_law__1050 : decode cL_law_ 1050 = .ok (.iconst 0, 1) := by decide +kernel
theorem dL_law__1051 : decode cL_law_ 1051 = .ok (.ireturn, 1) := by decide +kernel
theorem dL_law__1052 : decode cL_law_ 1052 = .ok (.goto 1766, 3) := by decide +kernel
theorem dL_law__1055 : decode cL_law_ 1055 = .ok (.aload_n 1, 1) := by decide +kernel
theorem dL_law__1056 : decode cL_law_ 1056 = .ok (.aload_n 0, 1) := by decide +kernel
theorem dL_law__1057 : decode cL_law_ 1057 = .ok (.iload 4, 2) := by decide +kernel
theorem dL_law__1059 : decode cL_law_ 1059 = .ok (.iconst 1, 1) := by decide +kernel
theorem dL_law__1060 : decode cL_law_ 1060 = .ok (.iadd, 1) := by decide +kernel
theorem dL_law__1061 : decode cL_law_ 1061 = .ok (.iaload, 1) := by decide +kernel
theorem dL_law__1062 : decode cL_law_ 1062 = .ok (.aload_n 3, 1) := by decide +kernel
theorem dL_law__1063 : decode cL_law_ 1063 = .ok (.invokestatic 180, 3) := by decide +kernel
theorem dL_law__1066 : decode cL_law_ 1066 = .ok (.istore 5, 2) := by decide +kernel
theorem dL_law__1068 : decode cL_law_ 1068 = .ok (.aload_n 2, 1) := by decide +kernel
theorem dL_law__1069 : decode cL_law_ 1069 = .ok (.aload_n 0, 1) := by decide +kernel
theorem dL_law__1070 : decode cL_law_ 1070 = .ok (.iload 4, 2) := by decide +kernel
theorem dL_law__1072 : decode cL_law_ 1072 = .ok (.iconst 1, 1) := by decide +kernel
theorem dL_law__1073 : decode cL_law_ 1073 = .ok (.iadd, 1) := by decide +kernel
theorem dL_law__1074 : decode cL_law_ 1074 = .ok (.iaload, 1) := by decide +kernel
theorem dL_law__1075 : decode cL_law_ 1075 = .ok (.invokevirtual 183, 3) := by decide +kernel
theorem dL_law__1078 : decode cL_law_ 1078 = .ok (.istore 6, 2) := by decide +kernel
theorem dL_law__1080 : decode cL_law_ 1080 = .ok (.aload_n 2, 1) := by decide +kernel
theorem dL_law__1081 : decode cL_law_ 1081 = .ok (.invokevirtual 144, 3) := by decide +kernel
theorem dL_law__1084 : decode cL_law_ 1084 = .ok (.iload 5, 2) := by decide +kernel
theorem dL_law__1086 : decode cL_law_ 1086 = .ok (.if_icmp .eq 5, 3) := by decide +kernel
theorem dL_law__1089 : decode cL_law_ 1089 = .ok (.iconst 0, 1) := by decide +kernel
theorem dL_law__1090 : decode cL_law_ 1090 = .ok (.ireturn, 1) := by decide +kernel
theorem dL_law__1091 : decode cL_law_ 1091 = .ok (.iload 5, 2) := by decide +kernel
theorem dL_law__1093 : decode cL_law_ 1093 = .ok (.ifCond .ne 15, 3) := by decide +kernel
theorem dL_law__1096 : decode cL_law_ 1096 = .ok (.aload_n 3, 1) := by decide +kernel
theorem dL_law__1097 : decode cL_law_ 1097 = .ok (.iconst 0, 1) := by decide +kernel
theorem dL_law__1098 : decode cL_law_ 1098 = .ok (.laload, 1) := by decide +kernel
theorem dL_law__1099 : decode cL_law_ 1099 = .ok (.iload 6, 2) := by decide +kernel
theorem dL_law__1101 : decode cL_law_ 1101 = .ok (.i2l, 1) := by decide +kernel
theorem dL_law__1102 : decode cL_law_ 1102 = .ok (.lcmp, 1) := by decide +kernel
theorem dL_law__1103 : decode cL_law_ 1103 = .ok (.ifCond .eq 5, 3) := by decide +kernel
theorem dL_law__1106 : decode cL_law_ 1106 = .ok (.iconst 0, 1) := by decide +kernel
theorem dL_law__1107 : decode cL_law_ 1107 = .ok (.ireturn, 1) := by decide +kernel
theorem dL_law__1108 : decode cL_law_ 1108 = .ok (.goto 1710, 3) := by decide +kernel
theorem dL_law__1111 : decode cL_law_ 1111 = .ok (.aload_n 1, 1) := by decide +kernel
theorem dL_law__1112 : decode cL_law_ 1112 = .ok (.aload_n 0, 1) := by decide +kernel
theorem dL_law__1113 : decode cL_law_ 1113 = .ok (.iload 4, 2) := by decide +kernel
theorem dL_law__1115 : decode cL_law_ 1115 = .ok (.iconst 1, 1) := by decide +kernel
theorem dL_law__1116 : decode cL_law_ 1116 = .ok (.iadd, 1) := by decide +kernel
theorem dL_law__1117 : decode cL_law_ 1117 = .ok (.iaload, 1) := by decide +kernel
theorem dL_law__1118 : decode cL_law_ 1118 = .ok (.aload_n 3, 1) := by decide +kernel
theorem dL_law__1119 : decode cL_law_ 1119 = .ok (.invokestatic 184, 3) := by decide +kernel
theorem dL_law__1122 : decode cL_law_ 1122 = .ok (.istore 5, 2) := by decide +kernel
theorem dL_law__1124 : decode cL_law_ 1124 = .ok (.aload_n 2, 1) := by decide +kernel
theorem dL_law__1125 : decode cL_law_ 1125 = .ok (.aload_n 0, 1) := by decide +kernel
theorem dL_law__1126 : decode cL_law_ 1126 = .ok (.iload 4, 2) := by decide +kernel
theorem dL_law__1128 : decode cL_law_ 1128 = .ok (.iconst 1, 1) := by decide +kernel
theorem dL_law__1129 : decode cL_law_ 1129 = .ok (.iadd, 1) := by decide +kernel
theorem dL_law__1130 : decode cL_law_ 1130 = .ok (.iaload, 1) := by decide +kernel
theorem dL_law__1131 : decode cL_law_ 1131 = .ok (.invokevirtual 186, 3) := by decide +kernel
theorem dL_law__1134 : decode cL_law_ 1134 = .ok (.istore 6, 2) := by decide +kernel
theorem dL_law__1136 : decode cL_law_ 1136 = .ok (.aload_n 2, 1) := by decide +kernel
theorem dL_law__1137 : decode cL_law_ 1137 = .ok (.invokevirtual 144, 3) := by decide +kernel
theorem dL_law__1140 : decode cL_law_ 1140 = .ok (.iload 5, 2) := by decide +kernel
theorem dL_law__1142 : decode cL_law_ 1142 = .ok (.if_icmp .eq 5, 3) := by decide +kernel
theorem dL_law__1145 : decode cL_law_ 1145 = .ok (.iconst 0, 1) := by decide +kernel
theorem dL_law__1146 : decode cL_law_ 1146 = .ok (.ireturn, 1) := by decide +kernel
theorem dL_law__1147 : decode cL_law_ 1147 = .ok (.iload 5, 2) := by decide +kernel
theorem dL_law__1149 : decode cL_law_ 1149 = .ok (.ifCond .ne 15, 3) := by decide +kernel
theorem dL_law__1152 : decode cL_law_ 1152 = .ok (.aload_n 3, 1) := by decide +kernel
theorem dL_law__1153 : decode cL_law_ 1153 = .ok (.iconst 0, 1) := by decide +kernel
theorem dL_law__1154 : decode cL_law_ 1154 = .ok (.laload, 1) := by decide +kernel
theorem dL_law__1155 : decode cL_law_ 1155 = .ok (.iload 6, 2) := by decide +kernel
theorem dL_law__1157 : decode cL_law_ 1157 = .ok (.i2l, 1) := by decide +kernel
theorem dL_law__1158 : decode cL_law_ 1158 = .ok (.lcmp, 1) := by decide +kernel
theorem dL_law__1159 : decode cL_law_ 1159 = .ok (.ifCond .eq 5, 3) := by decide +kernel
theorem dL_law__1162 : decode cL_law_ 1162 = .ok (.iconst 0, 1) := by decide +kernel
theorem dL_law__1163 : decode cL_law_ 1163 = .ok (.ireturn, 1) := by decide +kernel
theorem dL_law__1164 : decode cL_law_ 1164 = .ok (.goto 1654, 3) := by decide +kernel
theorem dL_law__1167 : decode cL_law_ 1167 = .ok (.aload_n 1, 1) := by decide +kernel
theorem dL_law__1168 : decode cL_law_ 1168 = .ok (.aload_n 0, 1) := by decide +kernel
theorem dL_law__1169 : decode cL_law_ 1169 = .ok (.iload 4, 2) := by decide +kernel
theorem dL_law__1171 : decode cL_law_ 1171 = .ok (.iconst 1, 1) := by decide +kernel
theorem dL_law__1172 : decode cL_law_ 1172 = .ok (.iadd, 1) := by decide +kernel
theorem dL_law__1173 : decode cL_law_ 1173 = .ok (.iaload, 1) := by decide +kernel
theorem dL_law__1174 : decode cL_law_ 1174 = .ok (.aload_n 3, 1) := by decide +kernel
theorem dL_law__1175 : decode cL_law_ 1175 = .ok (.invokestatic 187, 3) := by decide +kernel
theorem dL_law__1178 : decode cL_law_ 1178 = .ok (.istore 5, 2) := by decide +kernel
theorem dL_law__1180 : decode cL_law_ 1180 = .ok (.aload_n 2, 1) := by decide +kernel
theorem dL_law__1181 : decode cL_law_ 1181 = .ok (.aload_n 0, 1) := by decide +kernel
theorem dL_law__1182 : decode cL_law_ 1182 = .ok (.iload 4, 2) := by decide +kernel
theorem dL_law__1184 : decode cL_law_ 1184 = .ok (.iconst 1, 1) := by decide +kernel
theorem dL_law__1185 : decode cL_law_ 1185 = .ok (.iadd, 1) := by decide +kernel
theorem dL_law__1186 : decode cL_law_ 1186 = .ok (.iaload, 1) := by decide +kernel
theorem dL_law__1187 : decode cL_law_ 1187 = .ok (.invokevirtual 189, 3) := by decide +kernel
theorem dL_law__1190 : decode cL_law_ 1190 = .ok (.istore 6, 2) := by decide +kernel
theorem dL_law__1192 : decode cL_law_ 1192 = .ok (.aload_n 2, 1) := by decide +kernel
theorem dL_law__1193 : decode cL_law_ 1193 = .ok (.invokevirtual 144, 3) := by decide +kernel
theorem dL_law__1196 : decode cL_law_ 1196 = .ok (.iload 5, 2) := by decide +kernel
theorem dL_law__1198 : decode cL_law_ 1198 = .ok (.if_icmp .eq 5, 3) := by decide +kernel
theorem dL_law__1201 : decode cL_law_ 1201 = .ok (.iconst 0, 1) := by decide +kernel
theorem dL_law__1202 : decode cL_law_ 1202 = .ok (.ireturn, 1) := by decide +kernel
theorem dL_law__1203 : decode cL_law_ 1203 = .ok (.iload 5, 2) := by decide +kernel
theorem dL_law__1205 : decode cL_law_ 1205 = .ok (.ifCond .ne 15, 3) := by decide +kernel
theorem dL_law__1208 : decode cL_law_ 1208 = .ok (.aload_n 3, 1) := by decide +kernel
theorem dL_law__1209 : decode cL_law_ 1209 = .ok (.iconst 0, 1) := by decide +kernel
theorem dL_law__1210 : decode cL_law_ 1210 = .ok (.laload, 1) := by decide +kernel
theorem dL_law__1211 : decode cL_law_ 1211 = .ok (.iload 6, 2) := by decide +kernel
theorem dL_law__1213 : decode cL_law_ 1213 = .ok (.i2l, 1) := by decide +kernel
theorem dL_law__1214 : decode cL_law_ 1214 = .ok (.lcmp, 1) := by decide +kernel
theorem dL_law__1215 : decode cL_law_ 1215 = .ok (.ifCond .eq 5, 3) := by decide +kernel
theorem dL_law__1218 : decode cL_law_ 1218 = .ok (.iconst 0, 1) := by decide +kernel
theorem dL_law__1219 : decode cL_law_ 1219 = .ok (.ireturn, 1) := by decide +kernel
theorem dL_law__1220 : decode cL_law_ 1220 = .ok (.goto 1598, 3) := by decide +kernel
theorem dL_law__1223 : decode cL_law_ 1223 = .ok (.aload_n 1, 1) := by decide +kernel
theorem dL_law__1224 : decode cL_law_ 1224 = .ok (.invokevirtual 190, 3) := by decide +kernel
theorem dL_law__1227 : decode cL_law_ 1227 = .ok (.aload_n 2, 1) := by decide +kernel
theorem dL_law__1228 : decode cL_law_ 1228 = .ok (.invokevirtual 193, 3) := by decide +kernel
theorem dL_law__1231 : decode cL_law_ 1231 = .ok (.if_icmp .eq 1587, 3) := by decide +kernel
theorem dL_law__1234 : decode cL_law_ 1234 = .ok (.iconst 0, 1) := by decide +kernel
theorem dL_law__1235 : decode cL_law_ 1235 = .ok (.ireturn, 1) := by decide +kernel
theorem dL_law__1236 : decode cL_law_ 1236 = .ok (.aload_n 1, 1) := by decide +kernel
theorem dL_law__1237 : decode cL_law_ 1237 = .ok (.aload_n 0, 1) := by decide +kernel
theorem dL_law__1238 : decode cL_law_ 1238 = .ok (.iload 4, 2) := by decide +kernel
theorem dL_law__1240 : decode cL_law_ 1240 = .ok (.iconst 1, 1) := by decide +kernel
theorem dL_law__1241 : decode cL_law_ 1241 = .ok (.iadd, 1) := by decide +kernel
theorem dL_law__1242 : decode cL_law_ 1242 = .ok (.iaload, 1) := by decide +kernel
theorem dL_law__1243 : decode cL_law_ 1243 = .ok (.aload_n 3, 1) := by decide +kernel
theorem dL_law__1244 : decode cL_law_ 1244 = .ok (.invokestatic 194, 3) := by decide +kernel
theorem dL_law__1247 : decode cL_law_ 1247 = .ok (.istore 5, 2) := by decide +kernel
theorem dL_law__1249 : decode cL_law_ 1249 = .ok (.aload_n 2, 1) := by decide +kernel
theorem dL_law__1250 : decode cL_law_ 1250 = .ok (.aload_n 0, 1) := by decide +kernel
theorem dL_law__1251 : decode cL_law_ 1251 = .ok (.iload 4, 2) := by decide +kernel
theorem dL_law__1253 : decode cL_law_ 1253 = .ok (.iconst 1, 1) := by decide +kernel
theorem dL_law__1254 : decode cL_law_ 1254 = .ok (.iadd, 1) := by decide +kernel
theorem dL_law__1255 : decode cL_law_ 1255 = .ok (.iaload, 1) := by decide +kernel
theorem dL_law__1256 : decode cL_law_ 1256 = .ok (.invokevirtual 196, 3) := by decide +kernel
theorem dL_law__1259 : decode cL_law_ 1259 = .ok (.istore 6, 2) := by decide +kernel
theorem dL_law__1261 : decode cL_law_ 1261 = .ok (.aload_n 2, 1) := by decide +kernel
theorem dL_law__1262 : decode cL_law_ 1262 = .ok (.invokevirtual 144, 3) := by decide +kernel
theorem dL_law__1265 : decode cL_law_ 1265 = .ok (.iload 5, 2) := by decide +kernel
theorem dL_law__1267 : decode cL_law_ 1267 = .ok (.if_icmp .eq 5, 3) := by decide +kernel
theorem dL_law__1270 : decode cL_law_ 1270 = .ok (.iconst 0, 1) := by decide +kernel
theorem dL_law__1271 : decode cL_law_ 1271 = .ok (.ireturn, 1) := by decide +kernel
theorem dL_law__1272 : decode cL_law_ 1272 = .ok (.iload 5, 2) := by decide +kernel
theorem dL_law__1274 : decode cL_law_ 1274 = .ok (.ifCond .ne 15, 3) := by decide +kernel
theorem dL_law__1277 : decode cL_law_ 1277 = .ok (.aload_n 3, 1) := by decide +kernel
theorem dL_law__1278 : decode cL_law_ 1278 = .ok (.iconst 0, 1) := by decide +kernel
theorem dL_law__1279 : decode cL_law_ 1279 = .ok (.laload, 1) := by decide +kernel
theorem dL_law__1280 : decode cL_law_ 1280 = .ok (.iload 6, 2) := by decide +kernel
theorem dL_law__1282 : decode cL_law_ 1282 = .ok (.i2l, 1) := by decide +kernel
theorem dL_law__1283 : decode cL_law_ 1283 = .ok (.lcmp, 1) := by decide +kernel
theorem dL_law__1284 : decode cL_law_ 1284 = .ok (.ifCond .eq 5, 3) := by decide +kernel
theorem dL_law__1287 : decode cL_law_ 1287 = .ok (.iconst 0, 1) := by decide +kernel
theorem dL_law__1288 : decode cL_law_ 1288 = .ok (.ireturn, 1) := by decide +kernel
theorem dL_law__1289 : decode cL_law_ 1289 = .ok (.goto 1529, 3) := by decide +kernel
theorem dL_law__1292 : decode cL_law_ 1292 = .ok (.aload_n 1, 1) := by decide +kernel
theorem dL_law__1293 : decode cL_law_ 1293 = .ok (.invokevirtual 197, 3) := by decide +kernel
theorem dL_law__1296 : decode cL_law_ 1296 = .ok (.aload_n 2, 1) := by decide +kernel
theorem dL_law__1297 : decode cL_law_ 1297 = .ok (.invokevirtual 201, 3) := by decide +kernel
theorem dL_law__1300 : decode cL_law_ 1300 = .ok (.if_icmp .eq 1518, 3) := by decide +kernel
theorem dL_law__1303 : decode cL_law_ 1303 = .ok (.iconst 0, 1) := by decide +kernel
theorem dL_law__1304 : decode cL_law_ 1304 = .ok (.ireturn, 1) := by decide +kernel
theorem dL_law__1305 : decode cL_law_ 1305 = .ok (.aload_n 1, 1) := by decide +kernel
theorem dL_law__1306 : decode cL_law_ 1306 = .ok (.aload_n 0, 1) := by decide +kernel
theorem dL_law__1307 : decode cL_law_ 1307 = .ok (.iload 4, 2) := by decide +kernel
theorem dL_law__1309 : decode cL_law_ 1309 = .ok (.iconst 1, 1) := by decide +kernel
theorem dL_law__1310 : decode cL_law_ 1310 = .ok (.iadd, 1) := by decide +kernel
theorem dL_law__1311 : decode cL_law_ 1311 = .ok (.iaload, 1) := by decide +kernel
theorem dL_law__1312 : decode cL_law_ 1312 = .ok (.aload_n 0, 1) := by decide +kernel
theorem dL_law__1313 : decode cL_law_ 1313 = .ok (.iload 4, 2) := by decide +kernel
theorem dL_law__1315 : decode cL_law_ 1315 = .ok (.iconst 2, 1) := by decide +kernel
theorem dL_law__1316 : decode cL_law_ 1316 = .ok (.iadd, 1) := by decide +kernel
theorem dL_law__1317 : decode cL_law_ 1317 = .ok (.iaload, 1) := by decide +kernel
theorem dL_law__1318 : decode cL_law_ 1318 = .ok (.aload_n 3, 1) := by decide +kernel
theorem dL_law__1319 : decode cL_law_ 1319 = .ok (.invokestatic 202, 3) := by decide +kernel
theorem dL_law__1322 : decode cL_law_ 1322 = .ok (.istore 5, 2) := by decide +kernel
theorem dL_law__1324 : decode cL_law_ 1324 = .ok (.aload_n 2, 1) := by decide +kernel
theorem dL_law__1325 : decode cL_law_ 1325 = .ok (.aload_n 0, 1) := by decide +kernel
theorem dL_law__1326 : decode cL_law_ 1326 = .ok (.iload 4, 2) := by decide +kernel
theorem dL_law__1328 : decode cL_law_ 1328 = .ok (.iconst 1, 1) := by decide +kernel
theorem dL_law__1329 : decode cL_law_ 1329 = .ok (.iadd, 1) := by decide +kernel
theorem dL_law__1330 : decode cL_law_ 1330 = .ok (.iaload, 1) := by decide +kernel
theorem dL_law__1331 : decode cL_law_ 1331 = .ok (.aload_n 0, 1) := by decide +kernel
theorem dL_law__1332 : decode cL_law_ 1332 = .ok (.iload 4, 2) := by decide +kernel
theorem dL_law__1334 : decode cL_law_ 1334 = .ok (.iconst 2, 1) := by decide +kernel
theorem dL_law__1335 : decode cL_law_ 1335 = .ok (.iadd, 1) := by decide +kernel
theorem dL_law__1336 : decode cL_law_ 1336 = .ok (.iaload, 1) := by decide +kernel
theorem dL_law__1337 : decode cL_law_ 1337 = .ok (.invokevirtual 204, 3) := by decide +kernel
theorem dL_law__1340 : decode cL_law_ 1340 = .ok (.istore 6, 2) := by decide +kernel
theorem dL_law__1342 : decode cL_law_ 1342 = .ok (.aload_n 2, 1) := by decide +kernel
theorem dL_law__1343 : decode cL_law_ 1343 = .ok (.invokevirtual 144, 3) := by decide +kernel
theorem dL_law__1346 : decode cL_law_ 1346 = .ok (.iload 5, 2) := by decide +kernel
theorem dL_law__1348 : decode cL_law_ 1348 = .ok (.if_icmp .eq 5, 3) := by decide +kernel
theorem dL_law__1351 : decode cL_law_ 1351 = .ok (.iconst 0, 1) := by decide +kernel
theorem dL_law__1352 : decode cL_law_ 1352 = .ok (.ireturn, 1) := by decide +kernel
theorem dL_law__1353 : decode cL_law_ 1353 = .ok (.iload 5, 2) := by decide +kernel
theorem dL_law__1355 : decode cL_law_ 1355 = .ok (.ifCond .ne 15, 3) := by decide +kernel
theorem dL_law__1358 : decode cL_law_ 1358 = .ok (.aload_n 3, 1) := by decide +kernel
theorem dL_law__1359 : decode cL_law_ 1359 = .ok (.iconst 0, 1) := by decide +kernel
theorem dL_law__1360 : decode cL_law_ 1360 = .ok (.laload, 1) := by decide +kernel
theorem dL_law__1361 : decode cL_law_ 1361 = .ok (.iload 6, 2) := by decide +kernel
theorem dL_law__1363 : decode cL_law_ 1363 = .ok (.i2l, 1) := by decide +kernel
theorem dL_law__1364 : decode cL_law_ 1364 = .ok (.lcmp, 1) := by decide +kernel
theorem dL_law__1365 : decode cL_law_ 1365 = .ok (.ifCond .eq 5, 3) := by decide +kernel
theorem dL_law__1368 : decode cL_law_ 1368 = .ok (.iconst 0, 1) := by decide +kernel
theorem dL_law__1369 : decode cL_law_ 1369 = .ok (.ireturn, 1) := by decide +kernel
theorem dL_law__1370 : decode cL_law_ 1370 = .ok (.goto 1448, 3) := by decide +kernel
theorem dL_law__1373 : decode cL_law_ 1373 = .ok (.aload_n 1, 1) := by decide +kernel
theorem dL_law__1374 : decode cL_law_ 1374 = .ok (.aload_n 0, 1) := by decide +kernel
theorem dL_law__1375 : decode cL_law_ 1375 = .ok (.iload 4, 2) := by decide +kernel
theorem dL_law__1377 : decode cL_law_ 1377 = .ok (.iconst 1, 1) := by decide +kernel
theorem dL_law__1378 : decode cL_law_ 1378 = .ok (.iadd, 1) := by decide +kernel
theorem dL_law__1379 : decode cL_law_ 1379 = .ok (.iaload, 1) := by decide +kernel
theorem dL_law__1380 : decode cL_law_ 1380 = .ok (.ifCond .eq 7, 3) := by decide +kernel
theorem dL_law__1383 : decode cL_law_ 1383 = .ok (.iconst 1, 1) := by decide +kernel
theorem dL_law__1384 : decode cL_law_ 1384 = .ok (.goto 4, 3) := by decide +kernel
theorem dL_law__1387 : decode cL_law_ 1387 = .ok (.iconst 0, 1) := by decide +kernel
theorem dL_law__1388 : decode cL_law_ 1388 = .ok (.invokevirtual 205, 3) := by decide +kernel
theorem dL_law__1391 : decode cL_law_ 1391 = .ok (.aload_n 2, 1) := by decide +kernel
theorem dL_law__1392 : decode cL_law_ 1392 = .ok (.aload_n 0, 1) := by decide +kernel
theorem dL_law__1393 : decode cL_law_ 1393 = .ok (.iload 4, 2) := by decide +kernel
theorem dL_law__1395 : decode cL_law_ 1395 = .ok (.iconst 1, 1) := by decide +kernel
theorem dL_law__1396 : decode cL_law_ 1396 = .ok (.iadd, 1) := by decide +kernel
theorem dL_law__1397 : decode cL_law_ 1397 = .ok (.iaload, 1) := by decide +kernel
theorem dL_law__1398 : decode cL_law_ 1398 = .ok (.ifCond .eq 7, 3) := by decide +kernel
theorem dL_law__1401 : decode cL_law_ 1401 = .ok (.iconst 1, 1) := by decide +kernel
theorem dL_law__1402 : decode cL_law_ 1402 = .ok (.goto 4, 3) := by decide +kernel
theorem dL_law__1405 : decode cL_law_ 1405 = .ok (.iconst 0, 1) := by decide +kernel
theorem dL_law__1406 : decode cL_law_ 1406 = .ok (.invokevirtual 209, 3) := by decide +kernel
theorem dL_law__1409 : decode cL_law_ 1409 = .ok (.if_icmp .eq 1409, 3) := by decide +kernel
theorem dL_law__1412 : decode cL_law_ 1412 = .ok (.iconst 0, 1) := by decide +kernel
theorem dL_law__1413 : decode cL_law_ 1413 = .ok (.ireturn, 1) := by decide +kernel
theorem dL_law__1414 : decode cL_law_ 1414 = .ok (.aload_n 1, 1) := by decide +kernel
theorem dL_law__1415 : decode cL_law_ 1415 = .ok (.aload_n 0, 1) := by decide +kernel
theorem dL_law__1416 : decode cL_law_ 1416 = .ok (.iload 4, 2) := by decide +kernel
theorem dL_law__1418 : decode cL_law_ 1418 = .ok (.iconst 1, 1) := by decide +kernel
theorem dL_law__1419 : decode cL_law_ 1419 = .ok (.iadd, 1) := by decide +kernel
theorem dL_law__1420 : decode cL_law_ 1420 = .ok (.iaload, 1) := by decide +kernel
theorem dL_law__1421 : decode cL_law_ 1421 = .ok (.aload_n 0, 1) := by decide +kernel
theorem dL_law__1422 : decode cL_law_ 1422 = .ok (.iload 4, 2) := by decide +kernel
theorem dL_law__1424 : decode cL_law_ 1424 = .ok (.iconst 2, 1) := by decide +kernel
theorem dL_law__1425 : decode cL_law_ 1425 = .ok (.iadd, 1) := by decide +kernel
theorem dL_law__1426 : decode cL_law_ 1426 = .ok (.iaload, 1) := by decide +kernel
theorem dL_law__1427 : decode cL_law_ 1427 = .ok (.aload_n 3, 1) := by decide +kernel
theorem dL_law__1428 : decode cL_law_ 1428 = .ok (.invokestatic 210, 3) := by decide +kernel
theorem dL_law__1431 : decode cL_law_ 1431 = .ok (.istore 5, 2) := by decide +kernel
theorem dL_law__1433 : decode cL_law_ 1433 = .ok (.aload_n 2, 1) := by decide +kernel
theorem dL_law__1434 : decode cL_law_ 1434 = .ok (.aload_n 0, 1) := by decide +kernel
theorem dL_law__1435 : decode cL_law_ 1435 = .ok (.iload 4, 2) := by decide +kernel
theorem dL_law__1437 : decode cL_law_ 1437 = .ok (.iconst 1, 1) := by decide +kernel
theorem dL_law__1438 : decode cL_law_ 1438 = .ok (.iadd, 1) := by decide +kernel
theorem dL_law__1439 : decode cL_law_ 1439 = .ok (.iaload, 1) := by decide +kernel
theorem dL_law__1440 : decode cL_law_ 1440 = .ok (.aload_n 0, 1) := by decide +kernel
theorem dL_law__1441 : decode cL_law_ 1441 = .ok (.iload 4, 2) := by decide +kernel
theorem dL_law__1443 : decode cL_law_ 1443 = .ok (.iconst 2, 1) := by decide +kernel
theorem dL_law__1444 : decode cL_law_ 1444 = .ok (.iadd, 1) := by decide +kernel
theorem dL_law__1445 : decode cL_law_ 1445 = .ok (.iaload, 1) := by decide +kernel
theorem dL_law__1446 : decode cL_law_ 1446 = .ok (.invokevirtual 212, 3) := by decide +kernel
theorem dL_law__1449 : decode cL_law_ 1449 = .ok (.istore 6, 2) := by decide +kernel
theorem dL_law__1451 : decode cL_law_ 1451 = .ok (.aload_n 2, 1) := by decide +kernel
theorem dL_law__1452 : decode cL_law_ 1452 = .ok (.invokevirtual 144, 3) := by decide +kernel
theorem dL_law__1455 : decode cL_law_ 1455 = .ok (.iload 5, 2) := by decide +kernel
theorem dL_law__1457 : decode cL_law_ 1457 = .ok (.if_icmp .eq 5, 3) := by decide +kernel
theorem dL_law__1460 : decode cL_law_ 1460 = .ok (.iconst 0, 1) := by decide +kernel
theorem dL_law__1461 : decode cL_law_ 1461 = .ok (.ireturn, 1) := by decide +kernel
theorem dL_law__1462 : decode cL_law_ 1462 = .ok (.iload 5, 2) := by decide +kernel
theorem dL_law__1464 : decode cL_law_ 1464 = .ok (.ifCond .ne 15, 3) := by decide +kernel
theorem dL_law__1467 : decode cL_law_ 1467 = .ok (.aload_n 3, 1) := by decide +kernel
theorem dL_law__1468 : decode cL_law_ 1468 = .ok (.iconst 0, 1) := by decide +kernel
theorem dL_law__1469 : decode cL_law_ 1469 = .ok (.laload, 1) := by decide +kernel
theorem dL_law__1470 : decode cL_law_ 1470 = .ok (.iload 6, 2) := by decide +kernel
theorem dL_law__1472 : decode cL_law_ 1472 = .ok (.i2l, 1) := by decide +kernel
theorem dL_law__1473 : decode cL_law_ 1473 = .ok (.lcmp, 1) := by decide +kernel
theorem dL_law__1474 : decode cL_law_ 1474 = .ok (.ifCond .eq 5, 3) := by decide +kernel
theorem dL_law__1477 : decode cL_law_ 1477 = .ok (.iconst 0, 1) := by decide +kernel
theorem dL_law__1478 : decode cL_law_ 1478 = .ok (.ireturn, 1) := by decide +kernel
theorem dL_law__1479 : decode cL_law_ 1479 = .ok (.goto 1339, 3) := by decide +kernel
theorem dL_law__1482 : decode cL_law_ 1482 = .ok (.aload_n 1, 1) := by decide +kernel
theorem dL_law__1483 : decode cL_law_ 1483 = .ok (.aload_n 0, 1) := by decide +kernel
theorem dL_law__1484 : decode cL_law_ 1484 = .ok (.iload 4, 2) := by decide +kernel
theorem dL_law__1486 : decode cL_law_ 1486 = .ok (.iconst 1, 1) := by decide +kernel
theorem dL_law__1487 : decode cL_law_ 1487 = .ok (.iadd, 1) := by decide +kernel
theorem dL_law__1488 : decode cL_law_ 1488 = .ok (.iaload, 1) := by decide +kernel
theorem dL_law__1489 : decode cL_law_ 1489 = .ok (.aload_n 3, 1) := by decide +kernel
theorem dL_law__1490 : decode cL_law_ 1490 = .ok (.invokestatic 213, 3) := by decide +kernel
theorem dL_law__1493 : decode cL_law_ 1493 = .ok (.istore 5, 2) := by decide +kernel
theorem dL_law__1495 : decode cL_law_ 1495 = .ok (.aload_n 2, 1) := by decide +kernel
theorem dL_law__1496 : decode cL_law_ 1496 = .ok (.aload_n 0, 1) := by decide +kernel
theorem dL_law__1497 : decode cL_law_ 1497 = .ok (.iload 4, 2) := by decide +kernel
theorem dL_law__1499 : decode cL_law_ 1499 = .ok (.iconst 1, 1) := by decide +kernel
theorem dL_law__1500 : decode cL_law_ 1500 = .ok (.iadd, 1) := by decide +kernel
theorem dL_law__1501 : decode cL_law_ 1501 = .ok (.iaload, 1) := by decide +kernel
theorem dL_law__1502 : decode cL_law_ 1502 = .ok (.invokevirtual 215, 3) := by decide +kernel
theorem dL_law__1505 : decode cL_law_ 1505 = .ok (.istore 6, 2) := by decide +kernel
theorem dL_law__1507 : decode cL_law_ 1507 = .ok (.aload_n 2, 1) := by decide +kernel
theorem dL_law__1508 : decode cL_law_ 1508 = .ok (.invokevirtual 144, 3) := by decide +kernel
theorem dL_law__1511 : decode cL_law_ 1511 = .ok (.iload 5, 2) := by decide +kernel
theorem dL_law__1513 : decode cL_law_ 1513 = .ok (.if_icmp .eq 5, 3) := by decide +kernel
theorem dL_law__1516 : decode cL_law_ 1516 = .ok (.iconst 0, 1) := by decide +kernel
theorem dL_law__1517 : decode cL_law_ 1517 = .ok (.ireturn, 1) := by decide +kernel
theorem dL_law__1518 : decode cL_law_ 1518 = .ok (.iload 5, 2) := by decide +kernel
theorem dL_law__1520 : decode cL_law_ 1520 = .ok (.ifCond .ne 15, 3) := by decide +kernel
theorem dL_law__1523 : decode cL_law_ 1523 = .ok (.aload_n 3, 1) := by decide +kernel
theorem dL_law__1524 : decode cL_law_ 1524 = .ok (.iconst 0, 1) := by decide +kernel
theorem dL_law__1525 : decode cL_law_ 1525 = .ok (.laload, 1) := by decide +kernel
theorem dL_law__1526 : decode cL_law_ 1526 = .ok (.iload 6, 2) := by decide +kernel
theorem dL_law__1528 : decode cL_law_ 1528 = .ok (.i2l, 1) := by decide +kernel
theorem dL_law__1529 : decode cL_law_ 1529 = .ok (.lcmp, 1) := by decide +kernel
theorem dL_law__1530 : decode cL_law_ 1530 = .ok (.ifCond .eq 5, 3) := by decide +kernel
theorem dL_law__1533 : decode cL_law_ 1533 = .ok (.iconst 0, 1) := by decide +kernel
theorem dL_law__1534 : decode cL_law_ 1534 = .ok (.ireturn, 1) := by decide +kernel
theorem dL_law__1535 : decode cL_law_ 1535 = .ok (.goto 1283, 3) := by decide +kernel
theorem dL_law__1538 : decode cL_law_ 1538 = .ok (.aload_n 1, 1) := by decide +kernel
theorem dL_law__1539 : decode cL_law_ 1539 = .ok (.aload_n 0, 1) := by decide +kernel
theorem dL_law__1540 : decode cL_law_ 1540 = .ok (.iload 4, 2) := by decide +kernel
theorem dL_law__1542 : decode cL_law_ 1542 = .ok (.iconst 1, 1) := by decide +kernel
theorem dL_law__1543 : decode cL_law_ 1543 = .ok (.iadd, 1) := by decide +kernel
theorem dL_law__1544 : decode cL_law_ 1544 = .ok (.iaload, 1) := by decide +kernel
theorem dL_law__1545 : decode cL_law_ 1545 = .ok (.aload_n 3, 1) := by decide +kernel
theorem dL_law__1546 : decode cL_law_ 1546 = .ok (.invokestatic 216, 3) := by decide +kernel
theorem dL_law__1549 : decode cL_law_ 1549 = .ok (.istore 5, 2) := by decide +kernel
theorem dL_law__1551 : decode cL_law_ 1551 = .ok (.aload_n 2, 1) := by decide +kernel
theorem dL_law__1552 : decode cL_law_ 1552 = .ok (.aload_n 0, 1) := by decide +kernel
theorem dL_law__1553 : decode cL_law_ 1553 = .ok (.iload 4, 2) := by decide +kernel
theorem dL_law__1555 : decode cL_law_ 1555 = .ok (.iconst 1, 1) := by decide +kernel
theorem dL_law__1556 : decode cL_law_ 1556 = .ok (.iadd, 1) := by decide +kernel
theorem dL_law__1557 : decode cL_law_ 1557 = .ok (.iaload, 1) := by decide +kernel
theorem dL_law__1558 : decode cL_law_ 1558 = .ok (.invokevirtual 218, 3) := by decide +kernel
theorem dL_law__1561 : decode cL_law_ 1561 = .ok (.istore 6, 2) := by decide +kernel
theorem dL_law__1563 : decode cL_law_ 1563 = .ok (.aload_n 2, 1) := by decide +kernel
theorem dL_law__1564 : decode cL_law_ 1564 = .ok (.invokevirtual 144, 3) := by decide +kernel
theorem dL_law__1567 : decode cL_law_ 1567 = .ok (.iload 5, 2) := by decide +kernel
theorem dL_law__1569 : decode cL_law_ 1569 = .ok (.if_icmp .eq 5, 3) := by decide +kernel
theorem dL_law__1572 : decode cL_law_ 1572 = .ok (.iconst 0, 1) := by decide +kernel
theorem dL_law__1573 : decode cL_law_ 1573 = .ok (.ireturn, 1) := by decide +kernel
theorem dL_law__1574 : decode cL_law_ 1574 = .ok (.iload 5, 2) := by decide +kernel
theorem dL_law__1576 : decode cL_law_ 1576 = .ok (.ifCond .ne 15, 3) := by decide +kernel
theorem dL_law__1579 : decode cL_law_ 1579 = .ok (.aload_n 3, 1) := by decide +kernel
theorem dL_law__1580 : decode cL_law_ 1580 = .ok (.iconst 0, 1) := by decide +kernel
theorem dL_law__1581 : decode cL_law_ 1581 = .ok (.laload, 1) := by decide +kernel
theorem dL_law__1582 : decode cL_law_ 1582 = .ok (.iload 6, 2) := by decide +kernel
theorem dL_law__1584 : decode cL_law_ 1584 = .ok (.i2l, 1) := by decide +kernel
theorem dL_law__1585 : decode cL_law_ 1585 = .ok (.lcmp, 1) := by decide +kernel
theorem dL_law__1586 : decode cL_law_ 1586 = .ok (.ifCond .eq 5, 3) := by decide +kernel
theorem dL_law__1589 : decode cL_law_ 1589 = .ok (.iconst 0, 1) := by decide +kernel
theorem dL_law__1590 : decode cL_law_ 1590 = .ok (.ireturn, 1) := by decide +kernel
theorem dL_law__1591 : decode cL_law_ 1591 = .ok (.goto 1227, 3) := by decide +kernel
theorem dL_law__1594 : decode cL_law_ 1594 = .ok (.aload_n 1, 1) := by decide +kernel
theorem dL_law__1595 : decode cL_law_ 1595 = .ok (.aload_n 0, 1) := by decide +kernel
theorem dL_law__1596 : decode cL_law_ 1596 = .ok (.iload 4, 2) := by decide +kernel
theorem dL_law__1598 : decode cL_law_ 1598 = .ok (.iconst 1, 1) := by decide +kernel
theorem dL_law__1599 : decode cL_law_ 1599 = .ok (.iadd, 1) := by decide +kernel
theorem dL_law__1600 : decode cL_law_ 1600 = .ok (.iaload, 1) := by decide +kernel
theorem dL_law__1601 : decode cL_law_ 1601 = .ok (.aload_n 0, 1) := by decide +kernel
theorem dL_law__1602 : decode cL_law_ 1602 = .ok (.iload 4, 2) := by decide +kernel
theorem dL_law__1604 : decode cL_law_ 1604 = .ok (.iconst 2, 1) := by decide +kernel
theorem dL_law__1605 : decode cL_law_ 1605 = .ok (.iadd, 1) := by decide +kernel
theorem dL_law__1606 : decode cL_law_ 1606 = .ok (.iaload, 1) := by decide +kernel
theorem dL_law__1607 : decode cL_law_ 1607 = .ok (.ifCond .eq 7, 3) := by decide +kernel
theorem dL_law__1610 : decode cL_law_ 1610 = .ok (.iconst 1, 1) := by decide +kernel
theorem dL_law__1611 : decode cL_law_ 1611 = .ok (.goto 4, 3) := by decide +kernel
theorem dL_law__1614 : decode cL_law_ 1614 = .ok (.iconst 0, 1) := by decide +kernel
theorem dL_law__1615 : decode cL_law_ 1615 = .ok (.aload_n 3, 1) := by decide +kernel
theorem dL_law__1616 : decode cL_law_ 1616 = .ok (.invokestatic 219, 3) := by decide +kernel
theorem dL_law__1619 : decode cL_law_ 1619 = .ok (.istore 5, 2) := by decide +kernel
theorem dL_law__1621 : decode cL_law_ 1621 = .ok (.aload_n 2, 1) := by decide +kernel
theorem dL_law__1622 : decode cL_law_ 1622 = .ok (.aload_n 0, 1) := by decide +kernel
theorem dL_law__1623 : decode cL_law_ 1623 = .ok (.iload 4, 2) := by decide +kernel
theorem dL_law__1625 : decode cL_law_ 1625 = .ok (.iconst 1, 1) := by decide +kernel
theorem dL_law__1626 : decode cL_law_ 1626 = .ok (.iadd, 1) := by decide +kernel
theorem dL_law__1627 : decode cL_law_ 1627 = .ok (.iaload, 1) := by decide +kernel
theorem dL_law__1628 : decode cL_law_ 1628 = .ok (.aload_n 0, 1) := by decide +kernel
theorem dL_law__1629 : decode cL_law_ 1629 = .ok (.iload 4, 2) := by decide +kernel
theorem dL_law__1631 : decode cL_law_ 1631 = .ok (.iconst 2, 1) := by decide +kernel
theorem dL_law__1632 : decode cL_law_ 1632 = .ok (.iadd, 1) := by decide +kernel
theorem dL_law__1633 : decode cL_law_ 1633 = .ok (.iaload, 1) := by decide +kernel
theorem dL_law__1634 : decode cL_law_ 1634 = .ok (.ifCond .eq 7, 3) := by decide +kernel
theorem dL_law__1637 : decode cL_law_ 1637 = .ok (.iconst 1, 1) := by decide +kernel
theorem dL_law__1638 : decode cL_law_ 1638 = .ok (.goto 4, 3) := by decide +kernel
theorem dL_law__1641 : decode cL_law_ 1641 = .ok (.iconst 0, 1) := by decide +kernel
theorem dL_law__1642 : decode cL_law_ 1642 = .ok (.invokevirtual 222, 3) := by decide +kernel
theorem dL_law__1645 : decode cL_law_ 1645 = .ok (.istore 6, 2) := by decide +kernel
theorem dL_law__1647 : decode cL_law_ 1647 = .ok (.aload_n 2, 1) := by decide +kernel
theorem dL_law__1648 : decode cL_law_ 1648 = .ok (.invokevirtual 144, 3) := by decide +kernel
theorem dL_law__1651 : decode cL_law_ 1651 = .ok (.iload 5, 2) := by decide +kernel
theorem dL_law__1653 : decode cL_law_ 1653 = .ok (.if_icmp .eq 5, 3) := by decide +kernel
theorem dL_law__1656 : decode cL_law_ 1656 = .ok (.iconst 0, 1) := by decide +kernel
theorem dL_law__1657 : decode cL_law_ 1657 = .ok (.ireturn, 1) := by decide +kernel
theorem dL_law__1658 : decode cL_law_ 1658 = .ok (.iload 5, 2) := by decide +kernel
theorem dL_law__1660 : decode cL_law_ 1660 = .ok (.ifCond .ne 15, 3) := by decide +kernel
theorem dL_law__1663 : decode cL_law_ 1663 = .ok (.aload_n 3, 1) := by decide +kernel
theorem dL_law__1664 : decode cL_law_ 1664 = .ok (.iconst 0, 1) := by decide +kernel
theorem dL_law__1665 : decode cL_law_ 1665 = .ok (.laload, 1) := by decide +kernel
theorem dL_law__1666 : decode cL_law_ 1666 = .ok (.iload 6, 2) := by decide +kernel
theorem dL_law__1668 : decode cL_law_ 1668 = .ok (.i2l, 1) := by decide +kernel
theorem dL_law__1669 : decode cL_law_ 1669 = .ok (.lcmp, 1) := by decide +kernel
theorem dL_law__1670 : decode cL_law_ 1670 = .ok (.ifCond .eq 5, 3) := by decide +kernel
theorem dL_law__1673 : decode cL_law_ 1673 = .ok (.iconst 0, 1) := by decide +kernel
theorem dL_law__1674 : decode cL_law_ 1674 = .ok (.ireturn, 1) := by decide +kernel
theorem dL_law__1675 : decode cL_law_ 1675 = .ok (.goto 1143, 3) := by decide +kernel
theorem dL_law__1678 : decode cL_law_ 1678 = .ok (.aload_n 1, 1) := by decide +kernel
theorem dL_law__1679 : decode cL_law_ 1679 = .ok (.aload_n 0, 1) := by decide +kernel
theorem dL_law__1680 : decode cL_law_ 1680 = .ok (.iload 4, 2) := by decide +kernel
theorem dL_law__1682 : decode cL_law_ 1682 = .ok (.iconst 1, 1) := by decide +kernel
theorem dL_law__1683 : decode cL_law_ 1683 = .ok (.iadd, 1) := by decide +kernel
theorem dL_law__1684 : decode cL_law_ 1684 = .ok (.iaload, 1) := by decide +kernel
theorem dL_law__1685 : decode cL_law_ 1685 = .ok (.aload_n 3, 1) := by decide +kernel
theorem dL_law__1686 : decode cL_law_ 1686 = .ok (.invokestatic 223, 3) := by decide +kernel
theorem dL_law__1689 : decode cL_law_ 1689 = .ok (.istore 5, 2) := by decide +kernel
theorem dL_law__1691 : decode cL_law_ 1691 = .ok (.aload_n 2, 1) := by decide +kernel
theorem dL_law__1692 : decode cL_law_ 1692 = .ok (.aload_n 0, 1) := by decide +kernel
theorem dL_law__1693 : decode cL_law_ 1693 = .ok (.iload 4, 2) := by decide +kernel
theorem dL_law__1695 : decode cL_law_ 1695 = .ok (.iconst 1, 1) := by decide +kernel
theorem dL_law__1696 : decode cL_law_ 1696 = .ok (.iadd, 1) := by decide +kernel
theorem dL_law__1697 : decode cL_law_ 1697 = .ok (.iaload, 1) := by decide +kernel
theorem dL_law__1698 : decode cL_law_ 1698 = .ok (.invokevirtual 225, 3) := by decide +kernel
theorem dL_law__1701 : decode cL_law_ 1701 = .ok (.istore 6, 2) := by decide +kernel
theorem dL_law__1703 : decode cL_law_ 1703 = .ok (.aload_n 2, 1) := by decide +kernel
theorem dL_law__1704 : decode cL_law_ 1704 = .ok (.invokevirtual 144, 3) := by decide +kernel
theorem dL_law__1707 : decode cL_law_ 1707 = .ok (.iload 5, 2) := by decide +kernel
theorem dL_law__1709 : decode cL_law_ 1709 = .ok (.if_icmp .eq 5, 3) := by decide +kernel
theorem dL_law__1712 : decode cL_law_ 1712 = .ok (.iconst 0, 1) := by decide +kernel
theorem dL_law__1713 : decode cL_law_ 1713 = .ok (.ireturn, 1) := by decide +kernel
theorem dL_law__1714 : decode cL_law_ 1714 = .ok (.iload 5, 2) := by decide +kernel
theorem dL_law__1716 : decode cL_law_ 1716 = .ok (.ifCond .ne 15, 3) := by decide +kernel
theorem dL_law__1719 : decode cL_law_ 1719 = .ok (.aload_n 3, 1) := by decide +kernel
theorem dL_law__1720 : decode cL_law_ 1720 = .ok (.iconst 0, 1) := by decide +kernel
theorem dL_law__1721 : decode cL_law_ 1721 = .ok (.laload, 1) := by decide +kernel
theorem dL_law__1722 : decode cL_law_ 1722 = .ok (.iload 6, 2) := by decide +kernel
theorem dL_law__1724 : decode cL_law_ 1724 = .ok (.i2l, 1) := by decide +kernel
theorem dL_law__1725 : decode cL_law_ 1725 = .ok (.lcmp, 1) := by decide +kernel
theorem dL_law__1726 : decode cL_law_ 1726 = .ok (.ifCond .eq 5, 3) := by decide +kernel
theorem dL_law__1729 : decode cL_law_ 1729 = .ok (.iconst 0, 1) := by decide +kernel
theorem dL_law__1730 : decode cL_law_ 1730 = .ok (.ireturn, 1) := by decide +kernel
theorem dL_law__1731 : decode cL_law_ 1731 = .ok (.goto 1087, 3) := by decide +kernel
theorem dL_law__1734 : decode cL_law_ 1734 = .ok (.aload_n 1, 1) := by decide +kernel
theorem dL_law__1735 : decode cL_law_ 1735 = .ok (.aload_n 0, 1) := by decide +kernel
theorem dL_law__1736 : decode cL_law_ 1736 = .ok (.iload 4, 2) := by decide +kernel
theorem dL_law__1738 : decode cL_law_ 1738 = .ok (.iconst 1, 1) := by decide +kernel
theorem dL_law__1739 : decode cL_law_ 1739 = .ok (.iadd, 1) := by decide +kernel
theorem dL_law__1740 : decode cL_law_ 1740 = .ok (.iaload, 1) := by decide +kernel
theorem dL_law__1741 : decode cL_law_ 1741 = .ok (.ifCond .eq 7, 3) := by decide +kernel
theorem dL_law__1744 : decode cL_law_ 1744 = .ok (.iconst 1, 1) := by decide +kernel
theorem dL_law__1745 : decode cL_law_ 1745 = .ok (.goto 4, 3) := by decide +kernel
theorem dL_law__1748 : decode cL_law_ 1748 = .ok (.iconst 0, 1) := by decide +kernel
theorem dL_law__1749 : decode cL_law_ 1749 = .ok (.invokevirtual 226, 3) := by decide +kernel
theorem dL_law__1752 : decode cL_law_ 1752 = .ok (.aload_n 2, 1) := by decide +kernel
theorem dL_law__1753 : decode cL_law_ 1753 = .ok (.aload_n 0, 1) := by decide +kernel
theorem dL_law__1754 : decode cL_law_ 1754 = .ok (.iload 4, 2) := by decide +kernel
theorem dL_law__1756 : decode cL_law_ 1756 = .ok (.iconst 1, 1) := by decide +kernel
theorem dL_law__1757 : decode cL_law_ 1757 = .ok (.iadd, 1) := by decide +kernel
theorem dL_law__1758 : decode cL_law_ 1758 = .ok (.iaload, 1) := by decide +kernel
theorem dL_law__1759 : decode cL_law_ 1759 = .ok (.ifCond .eq 7, 3) := by decide +kernel
theorem dL_law__1762 : decode cL_law_ 1762 = .ok (.iconst 1, 1) := by decide +kernel
theorem dL_law__1763 : decode cL_law_ 1763 = .ok (.goto 4, 3) := by decide +kernel
theorem dL_law__1766 : decode cL_law_ 1766 = .ok (.iconst 0, 1) := by decide +kernel
theorem dL_law__1767 : decode cL_law_ 1767 = .ok (.invokevirtual 229, 3) := by decide +kernel
theorem dL_law__1770 : decode cL_law_ 1770 = .ok (.if_icmp .eq 1048, 3) := by decide +kernel
theorem dL_law__1773 : decode cL_law_ 1773 = .ok (.iconst 0, 1) := by decide +kernel
theorem dL_law__1774 : decode cL_law_ 1774 = .ok (.ireturn, 1) := by decide +kernel
theorem dL_law__1775 : decode cL_law_ 1775 = .ok (.aload_n 1, 1) := by decide +kernel
theorem dL_law__1776 : decode cL_law_ 1776 = .ok (.aload_n 0, 1) := by decide +kernel
theorem dL_law__1777 : decode cL_law_ 1777 = .ok (.iload 4, 2) := by decide +kernel
theorem dL_law__1779 : decode cL_law_ 1779 = .ok (.iconst 1, 1) := by decide +kernel
theorem dL_law__1780 : decode cL_law_ 1780 = .ok (.iadd, 1) := by decide +kernel
theorem dL_law__1781 : decode cL_law_ 1781 = .ok (.iaload, 1) := by decide +kernel
theorem dL_law__1782 : decode cL_law_ 1782 = .ok (.aload_n 0, 1) := by decide +kernel
theorem dL_law__1783 : decode cL_law_ 1783 = .ok (.iload 4, 2) := by decide +kernel
theorem dL_law__1785 : decode cL_law_ 1785 = .ok (.iconst 2, 1) := by decide +kernel
theorem dL_law__1786 : decode cL_law_ 1786 = .ok (.iadd, 1) := by decide +kernel
theorem dL_law__1787 : decode cL_law_ 1787 = .ok (.iaload, 1) := by decide +kernel
theorem dL_law__1788 : decode cL_law_ 1788 = .ok (.aload_n 3, 1) := by decide +kernel
theorem dL_law__1789 : decode cL_law_ 1789 = .ok (.invokestatic 230, 3) := by decide +kernel
theorem dL_law__1792 : decode cL_law_ 1792 = .ok (.istore 5, 2) := by decide +kernel
theorem dL_law__1794 : decode cL_law_ 1794 = .ok (.aload_n 2, 1) := by decide +kernel
theorem dL_law__1795 : decode cL_law_ 1795 = .ok (.aload_n 0, 1) := by decide +kernel
theorem dL_law__1796 : decode cL_law_ 1796 = .ok (.iload 4, 2) := by decide +kernel
theorem dL_law__1798 : decode cL_law_ 1798 = .ok (.iconst 1, 1) := by decide +kernel
theorem dL_law__1799 : decode cL_law_ 1799 = .ok (.iadd, 1) := by decide +kernel
theorem dL_law__1800 : decode cL_law_ 1800 = .ok (.iaload, 1) := by decide +kernel
theorem dL_law__1801 : decode cL_law_ 1801 = .ok (.aload_n 0, 1) := by decide +kernel
theorem dL_law__1802 : decode cL_law_ 1802 = .ok (.iload 4, 2) := by decide +kernel
theorem dL_law__1804 : decode cL_law_ 1804 = .ok (.iconst 2, 1) := by decide +kernel
theorem dL_law__1805 : decode cL_law_ 1805 = .ok (.iadd, 1) := by decide +kernel
theorem dL_law__1806 : decode cL_law_ 1806 = .ok (.iaload, 1) := by decide +kernel
theorem dL_law__1807 : decode cL_law_ 1807 = .ok (.invokevirtual 232, 3) := by decide +kernel
theorem dL_law__1810 : decode cL_law_ 1810 = .ok (.istore 6, 2) := by decide +kernel
theorem dL_law__1812 : decode cL_law_ 1812 = .ok (.aload_n 2, 1) := by decide +kernel
theorem dL_law__1813 : decode cL_law_ 1813 = .ok (.invokevirtual 144, 3) := by decide +kernel
theorem dL_law__1816 : decode cL_law_ 1816 = .ok (.iload 5, 2) := by decide +kernel
theorem dL_law__1818 : decode cL_law_ 1818 = .ok (.if_icmp .eq 5, 3) := by decide +kernel
theorem dL_law__1821 : decode cL_law_ 1821 = .ok (.iconst 0, 1) := by decide +kernel
theorem dL_law__1822 : decode cL_law_ 1822 = .ok (.ireturn, 1) := by decide +kernel
theorem dL_law__1823 : decode cL_law_ 1823 = .ok (.iload 5, 2) := by decide +kernel
theorem dL_law__1825 : decode cL_law_ 1825 = .ok (.ifCond .ne 22, 3) := by decide +kernel
theorem dL_law__1828 : decode cL_law_ 1828 = .ok (.aload_n 3, 1) := by decide +kernel
theorem dL_law__1829 : decode cL_law_ 1829 = .ok (.iconst 0, 1) := by decide +kernel
theorem dL_law__1830 : decode cL_law_ 1830 = .ok (.laload, 1) := by decide +kernel
theorem dL_law__1831 : decode cL_law_ 1831 = .ok (.iload 6, 2) := by decide +kernel
theorem dL_law__1833 : decode cL_law_ 1833 = .ok (.ifCond .eq 7, 3) := by decide +kernel
theorem dL_law__1836 : decode cL_law_ 1836 = .ok (.lconst 1, 1) := by decide +kernel
theorem dL_law__1837 : decode cL_law_ 1837 = .ok (.goto 4, 3) := by decide +kernel
theorem dL_law__1840 : decode cL_law_ 1840 = .ok (.lconst 0, 1) := by decide +kernel
theorem dL_law__1841 : decode cL_law_ 1841 = .ok (.lcmp, 1) := by decide +kernel
theorem dL_law__1842 : decode cL_law_ 1842 = .ok (.ifCond .eq 5, 3) := by decide +kernel
theorem dL_law__1845 : decode cL_law_ 1845 = .ok (.iconst 0, 1) := by decide +kernel
theorem dL_law__1846 : decode cL_law_ 1846 = .ok (.ireturn, 1) := by decide +kernel
theorem dL_law__1847 : decode cL_law_ 1847 = .ok (.goto 971, 3) := by decide +kernel
theorem dL_law__1850 : decode cL_law_ 1850 = .ok (.aload_n 1, 1) := by decide +kernel
theorem dL_law__1851 : decode cL_law_ 1851 = .ok (.aload_n 0, 1) := by decide +kernel
theorem dL_law__1852 : decode cL_law_ 1852 = .ok (.iload 4, 2) := by decide +kernel
theorem dL_law__1854 : decode cL_law_ 1854 = .ok (.iconst 1, 1) := by decide +kernel
theorem dL_law__1855 : decode cL_law_ 1855 = .ok (.iadd, 1) := by decide +kernel
theorem dL_law__1856 : decode cL_law_ 1856 = .ok (.iaload, 1) := by decide +kernel
theorem dL_law__1857 : decode cL_law_ 1857 = .ok (.aload_n 3, 1) := by decide +kernel
theorem dL_law__1858 : decode cL_law_ 1858 = .ok (.invokestatic 233, 3) := by decide +kernel
theorem dL_law__1861 : decode cL_law_ 1861 = .ok (.istore 5, 2) := by decide +kernel
theorem dL_law__1863 : decode cL_law_ 1863 = .ok (.aload_n 2, 1) := by decide +kernel
theorem dL_law__1864 : decode cL_law_ 1864 = .ok (.aload_n 0, 1) := by decide +kernel
theorem dL_law__1865 : decode cL_law_ 1865 = .ok (.iload 4, 2) := by decide +kernel
theorem dL_law__1867 : decode cL_law_ 1867 = .ok (.iconst 1, 1) := by decide +kernel
theorem dL_law__1868 : decode cL_law_ 1868 = .ok (.iadd, 1) := by decide +kernel
theorem dL_law__1869 : decode cL_law_ 1869 = .ok (.iaload, 1) := by decide +kernel
theorem dL_law__1870 : decode cL_law_ 1870 = .ok (.invokevirtual 235, 3) := by decide +kernel
theorem dL_law__1873 : decode cL_law_ 1873 = .ok (.istore 6, 2) := by decide +kernel
theorem dL_law__1875 : decode cL_law_ 1875 = .ok (.aload_n 2, 1) := by decide +kernel
theorem dL_law__1876 : decode cL_law_ 1876 = .ok (.invokevirtual 144, 3) := by decide +kernel
theorem dL_law__1879 : decode cL_law_ 1879 = .ok (.iload 5, 2) := by decide +kernel
theorem dL_law__1881 : decode cL_law_ 1881 = .ok (.if_icmp .eq 5, 3) := by decide +kernel
theorem dL_law__1884 : decode cL_law_ 1884 = .ok (.iconst 0, 1) := by decide +kernel
theorem dL_law__1885 : decode cL_law_ 1885 = .ok (.ireturn, 1) := by decide +kernel
theorem dL_law__1886 : decode cL_law_ 1886 = .ok (.iload 5, 2) := by decide +kernel
theorem dL_law__1888 : decode cL_law_ 1888 = .ok (.ifCond .ne 15, 3) := by decide +kernel
theorem dL_law__1891 : decode cL_law_ 1891 = .ok (.aload_n 3, 1) := by decide +kernel
theorem dL_law__1892 : decode cL_law_ 1892 = .ok (.iconst 0, 1) := by decide +kernel
theorem dL_law__1893 : decode cL_law_ 1893 = .ok (.laload, 1) := by decide +kernel
theorem dL_law__1894 : decode cL_law_ 1894 = .ok (.iload 6, 2) := by decide +kernel
theorem dL_law__1896 : decode cL_law_ 1896 = .ok (.i2l, 1) := by decide +kernel
theorem dL_law__1897 : decode cL_law_ 1897 = .ok (.lcmp, 1) := by decide +kernel
theorem dL_law__1898 : decode cL_law_ 1898 = .ok (.ifCond .eq 5, 3) := by decide +kernel
theorem dL_law__1901 : decode cL_law_ 1901 = .ok (.iconst 0, 1) := by decide +kernel
theorem dL_law__1902 : decode cL_law_ 1902 = .ok (.ireturn, 1) := by decide +kernel
theorem dL_law__1903 : decode cL_law_ 1903 = .ok (.goto 915, 3) := by decide +kernel
theorem dL_law__1906 : decode cL_law_ 1906 = .ok (.aload_n 1, 1) := by decide +kernel
theorem dL_law__1907 : decode cL_law_ 1907 = .ok (.aload_n 0, 1) := by decide +kernel
theorem dL_law__1908 : decode cL_law_ 1908 = .ok (.iload 4, 2) := by decide +kernel
theorem dL_law__1910 : decode cL_law_ 1910 = .ok (.iconst 1, 1) := by decide +kernel
theorem dL_law__1911 : decode cL_law_ 1911 = .ok (.iadd, 1) := by decide +kernel
theorem dL_law__1912 : decode cL_law_ 1912 = .ok (.iaload, 1) := by decide +kernel
theorem dL_law__1913 : decode cL_law_ 1913 = .ok (.aload_n 0, 1) := by decide +kernel
theorem dL_law__1914 : decode cL_law_ 1914 = .ok (.iload 4, 2) := by decide +kernel
theorem dL_law__1916 : decode cL_law_ 1916 = .ok (.iconst 2, 1) := by decide +kernel
theorem dL_law__1917 : decode cL_law_ 1917 = .ok (.iadd, 1) := by decide +kernel
theorem dL_law__1918 : decode cL_law_ 1918 = .ok (.iaload, 1) := by decide +kernel
theorem dL_law__1919 : decode cL_law_ 1919 = .ok (.aload_n 3, 1) := by decide +kernel
theorem dL_law__1920 : decode cL_law_ 1920 = .ok (.invokestatic 236, 3) := by decide +kernel
theorem dL_law__1923 : decode cL_law_ 1923 = .ok (.istore 5, 2) := by decide +kernel
theorem dL_law__1925 : decode cL_law_ 1925 = .ok (.aload_n 2, 1) := by decide +kernel
theorem dL_law__1926 : decode cL_law_ 1926 = .ok (.aload_n 0, 1) := by decide +kernel
theorem dL_law__1927 : decode cL_law_ 1927 = .ok (.iload 4, 2) := by decide +kernel
theorem dL_law__1929 : decode cL_law_ 1929 = .ok (.iconst 1, 1) := by decide +kernel
theorem dL_law__1930 : decode cL_law_ 1930 = .ok (.iadd, 1) := by decide +kernel
theorem dL_law__1931 : decode cL_law_ 1931 = .ok (.iaload, 1) := by decide +kernel
theorem dL_law__1932 : decode cL_law_ 1932 = .ok (.aload_n 0, 1) := by decide +kernel
theorem dL_law__1933 : decode cL_law_ 1933 = .ok (.iload 4, 2) := by decide +kernel
theorem dL_law__1935 : decode cL_law_ 1935 = .ok (.iconst 2, 1) := by decide +kernel
theorem dL_law__1936 : decode cL_law_ 1936 = .ok (.iadd, 1) := by decide +kernel
theorem dL_law__1937 : decode cL_law_ 1937 = .ok (.iaload, 1) := by decide +kernel
theorem dL_law__1938 : decode cL_law_ 1938 = .ok (.invokevirtual 238, 3) := by decide +kernel
theorem dL_law__1941 : decode cL_law_ 1941 = .ok (.istore 6, 2) := by decide +kernel
theorem dL_law__1943 : decode cL_law_ 1943 = .ok (.aload_n 2, 1) := by decide +kernel
theorem dL_law__1944 : decode cL_law_ 1944 = .ok (.invokevirtual 144, 3) := by decide +kernel
theorem dL_law__1947 : decode cL_law_ 1947 = .ok (.iload 5, 2) := by decide +kernel
theorem dL_law__1949 : decode cL_law_ 1949 = .ok (.if_icmp .eq 5, 3) := by decide +kernel
theorem dL_law__1952 : decode cL_law_ 1952 = .ok (.iconst 0, 1) := by decide +kernel
theorem dL_law__1953 : decode cL_law_ 1953 = .ok (.ireturn, 1) := by decide +kernel
theorem dL_law__1954 : decode cL_law_ 1954 = .ok (.iload 5, 2) := by decide +kernel
theorem dL_law__1956 : decode cL_law_ 1956 = .ok (.ifCond .ne 15, 3) := by decide +kernel
theorem dL_law__1959 : decode cL_law_ 1959 = .ok (.aload_n 3, 1) := by decide +kernel
theorem dL_law__1960 : decode cL_law_ 1960 = .ok (.iconst 0, 1) := by decide +kernel
theorem dL_law__1961 : decode cL_law_ 1961 = .ok (.laload, 1) := by decide +kernel
theorem dL_law__1962 : decode cL_law_ 1962 = .ok (.iload 6, 2) := by decide +kernel
theorem dL_law__1964 : decode cL_law_ 1964 = .ok (.i2l, 1) := by decide +kernel
theorem dL_law__1965 : decode cL_law_ 1965 = .ok (.lcmp, 1) := by decide +kernel
theorem dL_law__1966 : decode cL_law_ 1966 = .ok (.ifCond .eq 5, 3) := by decide +kernel
theorem dL_law__1969 : decode cL_law_ 1969 = .ok (.iconst 0, 1) := by decide +kernel
theorem dL_law__1970 : decode cL_law_ 1970 = .ok (.ireturn, 1) := by decide +kernel
theorem dL_law__1971 : decode cL_law_ 1971 = .ok (.goto 847, 3) := by decide +kernel
theorem dL_law__1974 : decode cL_law_ 1974 = .ok (.aload_n 1, 1) := by decide +kernel
theorem dL_law__1975 : decode cL_law_ 1975 = .ok (.aload_n 0, 1) := by decide +kernel
theorem dL_law__1976 : decode cL_law_ 1976 = .ok (.iload 4, 2) := by decide +kernel
theorem dL_law__1978 : decode cL_law_ 1978 = .ok (.iconst 1, 1) := by decide +kernel
theorem dL_law__1979 : decode cL_law_ 1979 = .ok (.iadd, 1) := by decide +kernel
theorem dL_law__1980 : decode cL_law_ 1980 = .ok (.iaload, 1) := by decide +kernel
theorem dL_law__1981 : decode cL_law_ 1981 = .ok (.aload_n 0, 1) := by decide +kernel
theorem dL_law__1982 : decode cL_law_ 1982 = .ok (.iload 4, 2) := by decide +kernel
theorem dL_law__1984 : decode cL_law_ 1984 = .ok (.iconst 2, 1) := by decide +kernel
theorem dL_law__1985 : decode cL_law_ 1985 = .ok (.iadd, 1) := by decide +kernel
theorem dL_law__1986 : decode cL_law_ 1986 = .ok (.iaload, 1) := by decide +kernel
theorem dL_law__1987 : decode cL_law_ 1987 = .ok (.aload_n 3, 1) := by decide +kernel
theorem dL_law__1988 : decode cL_law_ 1988 = .ok (.invokestatic 239, 3) := by decide +kernel
theorem dL_law__1991 : decode cL_law_ 1991 = .ok (.istore 5, 2) := by decide +kernel
theorem dL_law__1993 : decode cL_law_ 1993 = .ok (.aload_n 2, 1) := by decide +kernel
theorem dL_law__1994 : decode cL_law_ 1994 = .ok (.aload_n 0, 1) := by decide +kernel
theorem dL_law__1995 : decode cL_law_ 1995 = .ok (.iload 4, 2) := by decide +kernel
theorem dL_law__1997 : decode cL_law_ 1997 = .ok (.iconst 1, 1) := by decide +kernel
theorem dL_law__1998 : decode cL_law_ 1998 = .ok (.iadd, 1) := by decide +kernel
theorem dL_law__1999 : decode cL_law_ 1999 = .ok (.iaload, 1) := by decide +kernel
theorem dL_law__2000 : decode cL_law_ 2000 = .ok (.aload_n 0, 1) := by decide +kernel
theorem dL_law__2001 : decode cL_law_ 2001 = .ok (.iload 4, 2) := by decide +kernel
theorem dL_law__2003 : decode cL_law_ 2003 = .ok (.iconst 2, 1) := by decide +kernel
theorem dL_law__2004 : decode cL_law_ 2004 = .ok (.iadd, 1) := by decide +kernel
theorem dL_law__2005 : decode cL_law_ 2005 = .ok (.iaload, 1) := by decide +kernel
theorem dL_law__2006 : decode cL_law_ 2006 = .ok (.invokevirtual 241, 3) := by decide +kernel
theorem dL_law__2009 : decode cL_law_ 2009 = .ok (.istore 6, 2) := by decide +kernel
theorem dL_law__2011 : decode cL_law_ 2011 = .ok (.aload_n 2, 1) := by decide +kernel
theorem dL_law__2012 : decode cL_law_ 2012 = .ok (.invokevirtual 144, 3) := by decide +kernel
theorem dL_law__2015 : decode cL_law_ 2015 = .ok (.iload 5, 2) := by decide +kernel
theorem dL_law__2017 : decode cL_law_ 2017 = .ok (.if_icmp .eq 5, 3) := by decide +kernel
theorem dL_law__2020 : decode cL_law_ 2020 = .ok (.iconst 0, 1) := by decide +kernel
theorem dL_law__2021 : decode cL_law_ 2021 = .ok (.ireturn, 1) := by decide +kernel
theorem dL_law__2022 : decode cL_law_ 2022 = .ok (.iload 5, 2) := by decide +kernel
theorem dL_law__2024 : decode cL_law_ 2024 = .ok (.ifCond .ne 15, 3) := by decide +kernel
theorem dL_law__2027 : decode cL_law_ 2027 = .ok (.aload_n 3, 1) := by decide +kernel
theorem dL_law__2028 : decode cL_law_ 2028 = .ok (.iconst 0, 1) := by decide +kernel
theorem dL_law__2029 : decode cL_law_ 2029 = .ok (.laload, 1) := by decide +kernel
theorem dL_law__2030 : decode cL_law_ 2030 = .ok (.iload 6, 2) := by decide +kernel
theorem dL_law__2032 : decode cL_law_ 2032 = .ok (.i2l, 1) := by decide +kernel
theorem dL_law__2033 : decode cL_law_ 2033 = .ok (.lcmp, 1) := by decide +kernel
theorem dL_law__2034 : decode cL_law_ 2034 = .ok (.ifCond .eq 5, 3) := by decide +kernel
theorem dL_law__2037 : decode cL_law_ 2037 = .ok (.iconst 0, 1) := by decide +kernel
theorem dL_law__2038 : decode cL_law_ 2038 = .ok (.ireturn, 1) := by decide +kernel
theorem dL_law__2039 : decode cL_law_ 2039 = .ok (.goto 779, 3) := by decide +kernel
theorem dL_law__2042 : decode cL_law_ 2042 = .ok (.aload_n 1, 1) := by decide +kernel
theorem dL_law__2043 : decode cL_law_ 2043 = .ok (.invokevirtual 242, 3) := by decide +kernel
theorem dL_law__2046 : decode cL_law_ 2046 = .ok (.aload_n 2, 1) := by decide +kernel
theorem dL_law__2047 : decode cL_law_ 2047 = .ok (.invokevirtual 245, 3) := by decide +kernel
theorem dL_law__2050 : decode cL_law_ 2050 = .ok (.if_icmp .eq 768, 3) := by decide +kernel
theorem dL_law__2053 : decode cL_law_ 2053 = .ok (.iconst 0, 1) := by decide +kernel
theorem dL_law__2054 : decode cL_law_ 2054 = .ok (.ireturn, 1) := by decide +kernel
theorem dL_law__2055 : decode cL_law_ 2055 = .ok (.aload_n 1, 1) := by decide +kernel
theorem dL_law__2056 : decode cL_law_ 2056 = .ok (.aload_n 0, 1) := by decide +kernel
theorem dL_law__2057 : decode cL_law_ 2057 = .ok (.iload 4, 2) := by decide +kernel
theorem dL_law__2059 : decode cL_law_ 2059 = .ok (.iconst 1, 1) := by decide +kernel
theorem dL_law__2060 : decode cL_law_ 2060 = .ok (.iadd, 1) := by decide +kernel
theorem dL_law__2061 : decode cL_law_ 2061 = .ok (.iaload, 1) := by decide +kernel
theorem dL_law__2062 : decode cL_law_ 2062 = .ok (.aload_n 3, 1) := by decide +kernel
theorem dL_law__2063 : decode cL_law_ 2063 = .ok (.invokestatic 246, 3) := by decide +kernel
theorem dL_law__2066 : decode cL_law_ 2066 = .ok (.istore 5, 2) := by decide +kernel
theorem dL_law__2068 : decode cL_law_ 2068 = .ok (.aload_n 2, 1) := by decide +kernel
theorem dL_law__2069 : decode cL_law_ 2069 = .ok (.aload_n 0, 1) := by decide +kernel
theorem dL_law__2070 : decode cL_law_ 2070 = .ok (.iload 4, 2) := by decide +kernel
theorem dL_law__2072 : decode cL_law_ 2072 = .ok (.iconst 1, 1) := by decide +kernel
theorem dL_law__2073 : decode cL_law_ 2073 = .ok (.iadd, 1) := by decide +kernel
theorem dL_law__2074 : decode cL_law_ 2074 = .ok (.iaload, 1) := by decide +kernel
theorem dL_law__2075 : decode cL_law_ 2075 = .ok (.invokevirtual 248, 3) := by decide +kernel
theorem dL_law__2078 : decode cL_law_ 2078 = .ok (.istore 6, 2) := by decide +kernel
theorem dL_law__2080 : decode cL_law_ 2080 = .ok (.aload_n 2, 1) := by decide +kernel
theorem dL_law__2081 : decode cL_law_ 2081 = .ok (.invokevirtual 144, 3) := by decide +kernel
theorem dL_law__2084 : decode cL_law_ 2084 = .ok (.iload 5, 2) := by decide +kernel
theorem dL_law__2086 : decode cL_law_ 2086 = .ok (.if_icmp .eq 5, 3) := by decide +kernel
theorem dL_law__2089 : decode cL_law_ 2089 = .ok (.iconst 0, 1) := by decide +kernel
theorem dL_law__2090 : decode cL_law_ 2090 = .ok (.ireturn, 1) := by decide +kernel
theorem dL_law__2091 : decode cL_law_ 2091 = .ok (.iload 5, 2) := by decide +kernel
theorem dL_law__2093 : decode cL_law_ 2093 = .ok (.ifCond .ne 15, 3) := by decide +kernel
theorem dL_law__2096 : decode cL_law_ 2096 = .ok (.aload_n 3, 1) := by decide +kernel
theorem dL_law__2097 : decode cL_law_ 2097 = .ok (.iconst 0, 1) := by decide +kernel
theorem dL_law__2098 : decode cL_law_ 2098 = .ok (.laload, 1) := by decide +kernel
theorem dL_law__2099 : decode cL_law_ 2099 = .ok (.iload 6, 2) := by decide +kernel
theorem dL_law__2101 : decode cL_law_ 2101 = .ok (.i2l, 1) := by decide +kernel
theorem dL_law__2102 : decode cL_law_ 2102 = .ok (.lcmp, 1) := by decide +kernel
theorem dL_law__2103 : decode cL_law_ 2103 = .ok (.ifCond .eq 5, 3) := by decide +kernel
theorem dL_law__2106 : decode cL_law_ 2106 = .ok (.iconst 0, 1) := by decide +kernel
theorem dL_law__2107 : decode cL_law_ 2107 = .ok (.ireturn, 1) := by decide +kernel
theorem dL_law__2108 : decode cL_law_ 2108 = .ok (.goto 710, 3) := by decide +kernel
theorem dL_law__2111 : decode cL_law_ 2111 = .ok (.aload_n 1, 1) := by decide +kernel
theorem dL_law__2112 : decode cL_law_ 2112 = .ok (.invokevirtual 249, 3) := by decide +kernel
theorem dL_law__2115 : decode cL_law_ 2115 = .ok (.aload_n 2, 1) := by decide +kernel
theorem dL_law__2116 : decode cL_law_ 2116 = .ok (.invokevirtual 252, 3) := by decide +kernel
theorem dL_law__2119 : decode cL_law_ 2119 = .ok (.if_icmp .eq 699, 3) := by decide +kernel
theorem dL_law__2122 : decode cL_law_ 2122 = .ok (.iconst 0, 1) := by decide +kernel
theorem dL_law__2123 : decode cL_law_ 2123 = .ok (.ireturn, 1) := by decide +kernel
theorem dL_law__2124 : decode cL_law_ 2124 = .ok (.aload_n 1, 1) := by decide +kernel
theorem dL_law__2125 : decode cL_law_ 2125 = .ok (.aload_n 0, 1) := by decide +kernel
theorem dL_law__2126 : decode cL_law_ 2126 = .ok (.iload 4, 2) := by decide +kernel
theorem dL_law__2128 : decode cL_law_ 2128 = .ok (.iconst 1, 1) := by decide +kernel
theorem dL_law__2129 : decode cL_law_ 2129 = .ok (.iadd, 1) := by decide +kernel
theorem dL_law__2130 : decode cL_law_ 2130 = .ok (.iaload, 1) := by decide +kernel
theorem dL_law__2131 : decode cL_law_ 2131 = .ok (.aload_n 3, 1) := by decide +kernel
theorem dL_law__2132 : decode cL_law_ 2132 = .ok (.invokestatic 253, 3) := by decide +kernel
theorem dL_law__2135 : decode cL_law_ 2135 = .ok (.istore 5, 2) := by decide +kernel
theorem dL_law__2137 : decode cL_law_ 2137 = .ok (.aload_n 2, 1) := by decide +kernel
theorem dL_law__2138 : decode cL_law_ 2138 = .ok (.aload_n 0, 1) := by decide +kernel
theorem dL_law__2139 : decode cL_law_ 2139 = .ok (.iload 4, 2) := by decide +kernel
theorem dL_law__2141 : decode cL_law_ 2141 = .ok (.iconst 1, 1) := by decide +kernel
theorem dL_law__2142 : decode cL_law_ 2142 = .ok (.iadd, 1) := by decide +kernel
theorem dL_law__2143 : decode cL_law_ 2143 = .ok (.iaload, 1) := by decide +kernel
theorem dL_law__2144 : decode cL_law_ 2144 = .ok (.invokevirtual 255, 3) := by decide +kernel
theorem dL_law__2147 : decode cL_law_ 2147 = .ok (.istore 6, 2) := by decide +kernel
theorem dL_law__2149 : decode cL_law_ 2149 = .ok (.aload_n 2, 1) := by decide +kernel
theorem dL_law__2150 : decode cL_law_ 2150 = .ok (.invokevirtual 144, 3) := by decide +kernel
theorem dL_law__2153 : decode cL_law_ 2153 = .ok (.iload 5, 2) := by decide +kernel
theorem dL_law__2155 : decode cL_law_ 2155 = .ok (.if_icmp .eq 5, 3) := by decide +kernel
theorem dL_law__2158 : decode cL_law_ 2158 = .ok (.iconst 0, 1) := by decide +kernel
theorem dL_law__2159 : decode cL_law_ 2159 = .ok (.ireturn, 1) := by decide +kernel
theorem dL_law__2160 : decode cL_law_ 2160 = .ok (.iload 5, 2) := by decide +kernel
theorem dL_law__2162 : decode cL_law_ 2162 = .ok (.ifCond .ne 15, 3) := by decide +kernel
theorem dL_law__2165 : decode cL_law_ 2165 = .ok (.aload_n 3, 1) := by decide +kernel
theorem dL_law__2166 : decode cL_law_ 2166 = .ok (.iconst 0, 1) := by decide +kernel
theorem dL_law__2167 : decode cL_law_ 2167 = .ok (.laload, 1) := by decide +kernel
theorem dL_law__2168 : decode cL_law_ 2168 = .ok (.iload 6, 2) := by decide +kernel
theorem dL_law__2170 : decode cL_law_ 2170 = .ok (.i2l, 1) := by decide +kernel
theorem dL_law__2171 : decode cL_law_ 2171 = .ok (.lcmp, 1) := by decide +kernel
theorem dL_law__2172 : decode cL_law_ 2172 = .ok (.ifCond .eq 5, 3) := by decide +kernel
theorem dL_law__2175 : decode cL_law_ 2175 = .ok (.iconst 0, 1) := by decide +kernel
theorem dL_law__2176 : decode cL_law_ 2176 = .ok (.ireturn, 1) := by decide +kernel
theorem dL_law__2177 : decode cL_law_ 2177 = .ok (.goto 641, 3) := by decide +kernel
theorem dL_law__2180 : decode cL_law_ 2180 = .ok (.aload_n 1, 1) := by decide +kernel
theorem dL_law__2181 : decode cL_law_ 2181 = .ok (.aload_n 0, 1) := by decide +kernel
theorem dL_law__2182 : decode cL_law_ 2182 = .ok (.iload 4, 2) := by decide +kernel
theorem dL_law__2184 : decode cL_law_ 2184 = .ok (.iconst 1, 1) := by decide +kernel
theorem dL_law__2185 : decode cL_law_ 2185 = .ok (.iadd, 1) := by decide +kernel
theorem dL_law__2186 : decode cL_law_ 2186 = .ok (.iaload, 1) := by decide +kernel
theorem dL_law__2187 : decode cL_law_ 2187 = .ok (.invokevirtual 256, 3) := by decide +kernel
theorem dL_law__2190 : decode cL_law_ 2190 = .ok (.aload_n 2, 1) := by decide +kernel
theorem dL_law__2191 : decode cL_law_ 2191 = .ok (.aload_n 0, 1) := by decide +kernel
theorem dL_law__2192 : decode cL_law_ 2192 = .ok (.iload 4, 2) := by decide +kernel
theorem dL_law__2194 : decode cL_law_ 2194 = .ok (.iconst 1, 1) := by decide +kernel
theorem dL_law__2195 : decode cL_law_ 2195 = .ok (.iadd, 1) := by decide +kernel
theorem dL_law__2196 : decode cL_law_ 2196 = .ok (.iaload, 1) := by decide +kernel
theorem dL_law__2197 : decode cL_law_ 2197 = .ok (.invokevirtual 259, 3) := by decide +kernel
theorem dL_law__2200 : decode cL_law_ 2200 = .ok (.if_icmp .eq 618, 3) := by decide +kernel
theorem dL_law__2203 : decode cL_law_ 2203 = .ok (.iconst 0, 1) := by decide +kernel
theorem dL_law__2204 : decode cL_law_ 2204 = .ok (.ireturn, 1) := by decide +kernel
theorem dL_law__2205 : decode cL_law_ 2205 = .ok (.aload_n 1, 1) := by decide +kernel
theorem dL_law__2206 : decode cL_law_ 2206 = .ok (.invokevirtual 260, 3) := by decide +kernel
theorem dL_law__2209 : decode cL_law_ 2209 = .ok (.aload_n 2, 1) := by decide +kernel
theorem dL_law__2210 : decode cL_law_ 2210 = .ok (.invokevirtual 263, 3) := by decide +kernel
theorem dL_law__2213 : decode cL_law_ 2213 = .ok (.if_icmp .eq 605, 3) := by decide +kernel
theorem dL_law__2216 : decode cL_law_ 2216 = .ok (.iconst 0, 1) := by decide +kernel
theorem dL_law__2217 : decode cL_law_ 2217 = .ok (.ireturn, 1) := by decide +kernel
theorem dL_law__2218 : decode cL_law_ 2218 = .ok (.aload_n 1, 1) := by decide +kernel
theorem dL_law__2219 : decode cL_law_ 2219 = .ok (.aload_n 3, 1) := by decide +kernel
theorem dL_law__2220 : decode cL_law_ 2220 = .ok (.invokestatic 264, 3) := by decide +kernel
theorem dL_law__2223 : decode cL_law_ 2223 = .ok (.istore 5, 2) := by decide +kernel
theorem dL_law__2225 : decode cL_law_ 2225 = .ok (.aload_n 2, 1) := by decide +kernel
theorem dL_law__2226 : decode cL_law_ 2226 = .ok (.invokevirtual 266, 3) := by decide +kernel
theorem dL_law__2229 : decode cL_law_ 2229 = .ok (.istore 6, 2) := by decide +kernel
theorem dL_law__2231 : decode cL_law_ 2231 = .ok (.aload_n 2, 1) := by decide +kernel
theorem dL_law__2232 : decode cL_law_ 2232 = .ok (.invokevirtual 144, 3) := by decide +kernel
theorem dL_law__2235 : decode cL_law_ 2235 = .ok (.iload 5, 2) := by decide +kernel
theorem dL_law__2237 : decode cL_law_ 2237 = .ok (.if_icmp .eq 5, 3) := by decide +kernel
theorem dL_law__2240 : decode cL_law_ 2240 = .ok (.iconst 0, 1) := by decide +kernel
theorem dL_law__2241 : decode cL_law_ 2241 = .ok (.ireturn, 1) := by decide +kernel
theorem dL_law__2242 : decode cL_law_ 2242 = .ok (.iload 5, 2) := by decide +kernel
theorem dL_law__2244 : decode cL_law_ 2244 = .ok (.ifCond .ne 15, 3) := by decide +kernel
theorem dL_law__2247 : decode cL_law_ 2247 = .ok (.aload_n 3, 1) := by decide +kernel
theorem dL_law__2248 : decode cL_law_ 2248 = .ok (.iconst 0, 1) := by decide +kernel
theorem dL_law__2249 : decode cL_law_ 2249 = .ok (.laload, 1) := by decide +kernel
theorem dL_law__2250 : decode cL_law_ 2250 = .ok (.iload 6, 2) := by decide +kernel
theorem dL_law__2252 : decode cL_law_ 2252 = .ok (.i2l, 1) := by decide +kernel
theorem dL_law__2253 : decode cL_law_ 2253 = .ok (.lcmp, 1) := by decide +kernel
theorem dL_law__2254 : decode cL_law_ 2254 = .ok (.ifCond .eq 5, 3) := by decide +kernel
theorem dL_law__2257 : decode cL_law_ 2257 = .ok (.iconst 0, 1) := by decide +kernel
theorem dL_law__2258 : decode cL_law_ 2258 = .ok (.ireturn, 1) := by decide +kernel
theorem dL_law__2259 : decode cL_law_ 2259 = .ok (.goto 559, 3) := by decide +kernel
theorem dL_law__2262 : decode cL_law_ 2262 = .ok (.aload_n 1, 1) := by decide +kernel
theorem dL_law__2263 : decode cL_law_ 2263 = .ok (.aload_n 0, 1) := by decide +kernel
theorem dL_law__2264 : decode cL_law_ 2264 = .ok (.iload 4, 2) := by decide +kernel
theorem dL_law__2266 : decode cL_law_ 2266 = .ok (.iconst 1, 1) := by decide +kernel
theorem dL_law__2267 : decode cL_law_ 2267 = .ok (.iadd, 1) := by decide +kernel
theorem dL_law__2268 : decode cL_law_ 2268 = .ok (.iaload, 1) := by decide +kernel
theorem dL_law__2269 : decode cL_law_ 2269 = .ok (.aload_n 3, 1) := by decide +kernel
theorem dL_law__2270 : decode cL_law_ 2270 = .ok (.invokestatic 267, 3) := by decide +kernel
theorem dL_law__2273 : decode cL_law_ 2273 = .ok (.istore 5, 2) := by decide +kernel
theorem dL_law__2275 : decode cL_law_ 2275 = .ok (.aload_n 2, 1) := by decide +kernel
theorem dL_law__2276 : decode cL_law_ 2276 = .ok (.aload_n 0, 1) := by decide +kernel
theorem dL_law__2277 : decode cL_law_ 2277 = .ok (.iload 4, 2) := by decide +kernel
theorem dL_law__2279 : decode cL_law_ 2279 = .ok (.iconst 1, 1) := by decide +kernel
theorem dL_law__2280 : decode cL_law_ 2280 = .ok (.iadd, 1) := by decide +kernel
theorem dL_law__2281 : decode cL_law_ 2281 = .ok (.iaload, 1) := by decide +kernel
theorem dL_law__2282 : decode cL_law_ 2282 = .ok (.invokevirtual 269, 3) := by decide +kernel
theorem dL_law__2285 : decode cL_law_ 2285 = .ok (.istore 6, 2) := by decide +kernel
theorem dL_law__2287 : decode cL_law_ 2287 = .ok (.aload_n 2, 1) := by decide +kernel
theorem dL_law__2288 : decode cL_law_ 2288 = .ok (.invokevirtual 144, 3) := by decide +kernel
theorem dL_law__2291 : decode cL_law_ 2291 = .ok (.iload 5, 2) := by decide +kernel
theorem dL_law__2293 : decode cL_law_ 2293 = .ok (.if_icmp .eq 5, 3) := by decide +kernel
theorem dL_law__2296 : decode cL_law_ 2296 = .ok (.iconst 0, 1) := by decide +kernel
theorem dL_law__2297 : decode cL_law_ 2297 = .ok (.ireturn, 1) := by decide +kernel
theorem dL_law__2298 : decode cL_law_ 2298 = .ok (.iload 5, 2) := by decide +kernel
theorem dL_law__2300 : decode cL_law_ 2300 = .ok (.ifCond .ne 15, 3) := by decide +kernel
theorem dL_law__2303 : decode cL_law_ 2303 = .ok (.aload_n 3, 1) := by decide +kernel
theorem dL_law__2304 : decode cL_law_ 2304 = .ok (.iconst 0, 1) := by decide +kernel
theorem dL_law__2305 : decode cL_law_ 2305 = .ok (.laload, 1) := by decide +kernel
theorem dL_law__2306 : decode cL_law_ 2306 = .ok (.iload 6, 2) := by decide +kernel
theorem dL_law__2308 : decode cL_law_ 2308 = .ok (.i2l, 1) := by decide +kernel
theorem dL_law__2309 : decode cL_law_ 2309 = .ok (.lcmp, 1) := by decide +kernel
theorem dL_law__2310 : decode cL_law_ 2310 = .ok (.ifCond .eq 5, 3) := by decide +kernel
theorem dL_law__2313 : decode cL_law_ 2313 = .ok (.iconst 0, 1) := by decide +kernel
theorem dL_law__2314 : decode cL_law_ 2314 = .ok (.ireturn, 1) := by decide +kernel
theorem dL_law__2315 : decode cL_law_ 2315 = .ok (.goto 503, 3) := by decide +kernel
theorem dL_law__2318 : decode cL_law_ 2318 = .ok (.aload_n 1, 1) := by decide +kernel
theorem dL_law__2319 : decode cL_law_ 2319 = .ok (.aload_n 0, 1) := by decide +kernel
theorem dL_law__2320 : decode cL_law_ 2320 = .ok (.iload 4, 2) := by decide +kernel
theorem dL_law__2322 : decode cL_law_ 2322 = .ok (.iconst 1, 1) := by decide +kernel
theorem dL_law__2323 : decode cL_law_ 2323 = .ok (.iadd, 1) := by decide +kernel
theorem dL_law__2324 : decode cL_law_ 2324 = .ok (.iaload, 1) := by decide +kernel
theorem dL_law__2325 : decode cL_law_ 2325 = .ok (.ifCond .eq 7, 3) := by decide +kernel
theorem dL_law__2328 : decode cL_law_ 2328 = .ok (.iconst 1, 1) := by decide +kernel
theorem dL_law__2329 : decode cL_law_ 2329 = .ok (.goto 4, 3) := by decide +kernel
theorem dL_law__2332 : decode cL_law_ 2332 = .ok (.iconst 0, 1) := by decide +kernel
theorem dL_law__2333 : decode cL_law_ 2333 = .ok (.invokevirtual 270, 3) := by decide +kernel
theorem dL_law__2336 : decode cL_law_ 2336 = .ok (.aload_n 2, 1) := by decide +kernel
theorem dL_law__2337 : decode cL_law_ 2337 = .ok (.aload_n 0, 1) := by decide +kernel
theorem dL_law__2338 : decode cL_law_ 2338 = .ok (.iload 4, 2) := by decide +kernel
theorem dL_law__2340 : decode cL_law_ 2340 = .ok (.iconst 1, 1) := by decide +kernel
theorem dL_law__2341 : decode cL_law_ 2341 = .ok (.iadd, 1) := by decide +kernel
theorem dL_law__2342 : decode cL_law_ 2342 = .ok (.iaload, 1) := by decide +kernel
theorem dL_law__2343 : decode cL_law_ 2343 = .ok (.ifCond .eq 7, 3) := by decide +kernel
theorem dL_law__2346 : decode cL_law_ 2346 = .ok (.iconst 1, 1) := by decide +kernel
theorem dL_law__2347 : decode cL_law_ 2347 = .ok (.goto 4, 3) := by decide +kernel
theorem dL_law__2350 : decode cL_law_ 2350 = .ok (.iconst 0, 1) := by decide +kernel
theorem dL_law__2351 : decode cL_law_ 2351 = .ok (.invokevirtual 273, 3) := by decide +kernel
theorem dL_law__2354 : decode cL_law_ 2354 = .ok (.if_icmp .eq 464, 3) := by decide +kernel
theorem dL_law__2357 : decode cL_law_ 2357 = .ok (.iconst 0, 1) := by decide +kernel
theorem dL_law__2358 : decode cL_law_ 2358 = .ok (.ireturn, 1) := by decide +kernel
theorem dL_law__2359 : decode cL_law_ 2359 = .ok (.aload_n 1, 1) := by decide +kernel
theorem dL_law__2360 : decode cL_law_ 2360 = .ok (.aload_n 0, 1) := by decide +kernel
theorem dL_law__2361 : decode cL_law_ 2361 = .ok (.iload 4, 2) := by decide +kernel
theorem dL_law__2363 : decode cL_law_ 2363 = .ok (.iconst 1, 1) := by decide +kernel
theorem dL_law__2364 : decode cL_law_ 2364 = .ok (.iadd, 1) := by decide +kernel
theorem dL_law__2365 : decode cL_law_ 2365 = .ok (.iaload, 1) := by decide +kernel
theorem dL_law__2366 : decode cL_law_ 2366 = .ok (.aload_n 3, 1) := by decide +kernel
theorem dL_law__2367 : decode cL_law_ 2367 = .ok (.invokestatic 274, 3) := by decide +kernel
theorem dL_law__2370 : decode cL_law_ 2370 = .ok (.istore 5, 2) := by decide +kernel
theorem dL_law__2372 : decode cL_law_ 2372 = .ok (.aload_n 2, 1) := by decide +kernel
theorem dL_law__2373 : decode cL_law_ 2373 = .ok (.aload_n 0, 1) := by decide +kernel
theorem dL_law__2374 : decode cL_law_ 2374 = .ok (.iload 4, 2) := by decide +kernel
theorem dL_law__2376 : decode cL_law_ 2376 = .ok (.iconst 1, 1) := by decide +kernel
theorem dL_law__2377 : decode cL_law_ 2377 = .ok (.iadd, 1) := by decide +kernel
theorem dL_law__2378 : decode cL_law_ 2378 = .ok (.iaload, 1) := by decide +kernel
theorem dL_law__2379 : decode cL_law_ 2379 = .ok (.invokevirtual 276, 3) := by decide +kernel
theorem dL_law__2382 : decode cL_law_ 2382 = .ok (.istore 6, 2) := by decide +kernel
theorem dL_law__2384 : decode cL_law_ 2384 = .ok (.aload_n 2, 1) := by decide +kernel
theorem dL_law__2385 : decode cL_law_ 2385 = .ok (.invokevirtual 144, 3) := by decide +kernel
theorem dL_law__2388 : decode cL_law_ 2388 = .ok (.iload 5, 2) := by decide +kernel
theorem dL_law__2390 : decode cL_law_ 2390 = .ok (.if_icmp .eq 5, 3) := by decide +kernel
theorem dL_law__2393 : decode cL_law_ 2393 = .ok (.iconst 0, 1) := by decide +kernel
theorem dL_law__2394 : decode cL_law_ 2394 = .ok (.ireturn, 1) := by decide +kernel
theorem dL_law__2395 : decode cL_law_ 2395 = .ok (.iload 5, 2) := by decide +kernel
theorem dL_law__2397 : decode cL_law_ 2397 = .ok (.ifCond .ne 15, 3) := by decide +kernel
theorem dL_law__2400 : decode cL_law_ 2400 = .ok (.aload_n 3, 1) := by decide +kernel
theorem dL_law__2401 : decode cL_law_ 2401 = .ok (.iconst 0, 1) := by decide +kernel
theorem dL_law__2402 : decode cL_law_ 2402 = .ok (.laload, 1) := by decide +kernel
theorem dL_law__2403 : decode cL_law_ 2403 = .ok (.iload 6, 2) := by decide +kernel
theorem dL_law__2405 : decode cL_law_ 2405 = .ok (.i2l, 1) := by decide +kernel
theorem dL_law__2406 : decode cL_law_ 2406 = .ok (.lcmp, 1) := by decide +kernel
theorem dL_law__2407 : decode cL_law_ 2407 = .ok (.ifCond .eq 5, 3) := by decide +kernel
theorem dL_law__2410 : decode cL_law_ 2410 = .ok (.iconst 0, 1) := by decide +kernel
theorem dL_law__2411 : decode cL_law_ 2411 = .ok (.ireturn, 1) := by decide +kernel
theorem dL_law__2412 : decode cL_law_ 2412 = .ok (.goto 406, 3) := by decide +kernel
theorem dL_law__2415 : decode cL_law_ 2415 = .ok (.aload_n 1, 1) := by decide +kernel
theorem dL_law__2416 : decode cL_law_ 2416 = .ok (.aload_n 0, 1) := by decide +kernel
theorem dL_law__2417 : decode cL_law_ 2417 = .ok (.iload 4, 2) := by decide +kernel
theorem dL_law__2419 : decode cL_law_ 2419 = .ok (.iconst 1, 1) := by decide +kernel
theorem dL_law__2420 : decode cL_law_ 2420 = .ok (.iadd, 1) := by decide +kernel
theorem dL_law__2421 : decode cL_law_ 2421 = .ok (.iaload, 1) := by decide +kernel
theorem dL_law__2422 : decode cL_law_ 2422 = .ok (.aload_n 0, 1) := by decide +kernel
theorem dL_law__2423 : decode cL_law_ 2423 = .ok (.iload 4, 2) := by decide +kernel
theorem dL_law__2425 : decode cL_law_ 2425 = .ok (.iconst 2, 1) := by decide +kernel
theorem dL_law__2426 : decode cL_law_ 2426 = .ok (.iadd, 1) := by decide +kernel
theorem dL_law__2427 : decode cL_law_ 2427 = .ok (.iaload, 1) := by decide +kernel
theorem dL_law__2428 : decode cL_law_ 2428 = .ok (.aload_n 0, 1) := by decide +kernel
theorem dL_law__2429 : decode cL_law_ 2429 = .ok (.iload 4, 2) := by decide +kernel
theorem dL_law__2431 : decode cL_law_ 2431 = .ok (.iconst 3, 1) := by decide +kernel
theorem dL_law__2432 : decode cL_law_ 2432 = .ok (.iadd, 1) := by decide +kernel
theorem dL_law__2433 : decode cL_law_ 2433 = .ok (.iaload, 1) := by decide +kernel
theorem dL_law__2434 : decode cL_law_ 2434 = .ok (.ifCond .eq 7, 3) := by decide +kernel
theorem dL_law__2437 : decode cL_law_ 2437 = .ok (.iconst 1, 1) := by decide +kernel
theorem dL_law__2438 : decode cL_law_ 2438 = .ok (.goto 4, 3) := by decide +kernel
theorem dL_law__2441 : decode cL_law_ 2441 = .ok (.iconst 0, 1) := by decide +kernel
theorem dL_law__2442 : decode cL_law_ 2442 = .ok (.aload_n 3, 1) := by decide +kernel
theorem dL_law__2443 : decode cL_law_ 2443 = .ok (.invokestatic 277, 3) := by decide +kernel
theorem dL_law__2446 : decode cL_law_ 2446 = .ok (.istore 5, 2) := by decide +kernel
theorem dL_law__2448 : decode cL_law_ 2448 = .ok (.aload_n 2, 1) := by decide +kernel
theorem dL_law__2449 : decode cL_law_ 2449 = .ok (.aload_n 0, 1) := by decide +kernel
theorem dL_law__2450 : decode cL_law_ 2450 = .ok (.iload 4, 2) := by decide +kernel
theorem dL_law__2452 : decode cL_law_ 2452 = .ok (.iconst 1, 1) := by decide +kernel
theorem dL_law__2453 : decode cL_law_ 2453 = .ok (.iadd, 1) := by decide +kernel
theorem dL_law__2454 : decode cL_law_ 2454 = .ok (.iaload, 1) := by decide +kernel
theorem dL_law__2455 : decode cL_law_ 2455 = .ok (.aload_n 0, 1) := by decide +kernel
theorem dL_law__2456 : decode cL_law_ 2456 = .ok (.iload 4, 2) := by decide +kernel
theorem dL_law__2458 : decode cL_law_ 2458 = .ok (.iconst 2, 1) := by decide +kernel
theorem dL_law__2459 : decode cL_law_ 2459 = .ok (.iadd, 1) := by decide +kernel
theorem dL_law__2460 : decode cL_law_ 2460 = .ok (.iaload, 1) := by decide +kernel
theorem dL_law__2461 : decode cL_law_ 2461 = .ok (.aload_n 0, 1) := by decide +kernel
theorem dL_law__2462 : decode cL_law_ 2462 = .ok (.iload 4, 2) := by decide +kernel
theorem dL_law__2464 : decode cL_law_ 2464 = .ok (.iconst 3, 1) := by decide +kernel
theorem dL_law__2465 : decode cL_law_ 2465 = .ok (.iadd, 1) := by decide +kernel
theorem dL_law__2466 : decode cL_law_ 2466 = .ok (.iaload, 1) := by decide +kernel
theorem dL_law__2467 : decode cL_law_ 2467 = .ok (.ifCond .eq 7, 3) := by decide +kernel
theorem dL_law__2470 : decode cL_law_ 2470 = .ok (.iconst 1, 1) := by decide +kernel
theorem dL_law__2471 : decode cL_law_ 2471 = .ok (.goto 4, 3) := by decide +kernel
theorem dL_law__2474 : decode cL_law_ 2474 = .ok (.iconst 0, 1) := by decide +kernel
theorem dL_law__2475 : decode cL_law_ 2475 = .ok (.invokevirtual 279, 3) := by decide +kernel
theorem dL_law__2478 : decode cL_law_ 2478 = .ok (.istore 6, 2) := by decide +kernel
theorem dL_law__2480 : decode cL_law_ 2480 = .ok (.aload_n 2, 1) := by decide +kernel
theorem dL_law__2481 : decode cL_law_ 2481 = .ok (.invokevirtual 144, 3) := by decide +kernel
theorem dL_law__2484 : decode cL_law_ 2484 = .ok (.iload 5, 2) := by decide +kernel
theorem dL_law__2486 : decode cL_law_ 2486 = .ok (.if_icmp .eq 5, 3) := by decide +kernel
theorem dL_law__2489 : decode cL_law_ 2489 = .ok (.iconst 0, 1) := by decide +kernel
theorem dL_law__2490 : decode cL_law_ 2490 = .ok (.ireturn, 1) := by decide +kernel
theorem dL_law__2491 : decode cL_law_ 2491 = .ok (.iload 5, 2) := by decide +kernel
theorem dL_law__2493 : decode cL_law_ 2493 = .ok (.ifCond .ne 15, 3) := by decide +kernel
theorem dL_law__2496 : decode cL_law_ 2496 = .ok (.aload_n 3, 1) := by decide +kernel
theorem dL_law__2497 : decode cL_law_ 2497 = .ok (.iconst 0, 1) := by decide +kernel
theorem dL_law__2498 : decode cL_law_ 2498 = .ok (.laload, 1) := by decide +kernel
theorem dL_law__2499 : decode cL_law_ 2499 = .ok (.iload 6, 2) := by decide +kernel
theorem dL_law__2501 : decode cL_law_ 2501 = .ok (.i2l, 1) := by decide +kernel
theorem dL_law__2502 : decode cL_law_ 2502 = .ok (.lcmp, 1) := by decide +kernel
theorem dL_law__2503 : decode cL_law_ 2503 = .ok (.ifCond .eq 5, 3) := by decide +kernel
theorem dL_law__2506 : decode cL_law_ 2506 = .ok (.iconst 0, 1) := by decide +kernel
theorem dL_law__2507 : decode cL_law_ 2507 = .ok (.ireturn, 1) := by decide +kernel
theorem dL_law__2508 : decode cL_law_ 2508 = .ok (.goto 310, 3) := by decide +kernel
theorem dL_law__2511 : decode cL_law_ 2511 = .ok (.aload_n 1, 1) := by decide +kernel
theorem dL_law__2512 : decode cL_law_ 2512 = .ok (.aload_n 0, 1) := by decide +kernel
theorem dL_law__2513 : decode cL_law_ 2513 = .ok (.iload 4, 2) := by decide +kernel
theorem dL_law__2515 : decode cL_law_ 2515 = .ok (.iconst 1, 1) := by decide +kernel
theorem dL_law__2516 : decode cL_law_ 2516 = .ok (.iadd, 1) := by decide +kernel
theorem dL_law__2517 : decode cL_law_ 2517 = .ok (.iaload, 1) := by decide +kernel
theorem dL_law__2518 : decode cL_law_ 2518 = .ok (.aload_n 0, 1) := by decide +kernel
theorem dL_law__2519 : decode cL_law_ 2519 = .ok (.iload 4, 2) := by decide +kernel
theorem dL_law__2521 : decode cL_law_ 2521 = .ok (.iconst 2, 1) := by decide +kernel
theorem dL_law__2522 : decode cL_law_ 2522 = .ok (.iadd, 1) := by decide +kernel
theorem dL_law__2523 : decode cL_law_ 2523 = .ok (.iaload, 1) := by decide +kernel
theorem dL_law__2524 : decode cL_law_ 2524 = .ok (.aload_n 0, 1) := by decide +kernel
theorem dL_law__2525 : decode cL_law_ 2525 = .ok (.iload 4, 2) := by decide +kernel
theorem dL_law__2527 : decode cL_law_ 2527 = .ok (.iconst 3, 1) := by decide +kernel
theorem dL_law__2528 : decode cL_law_ 2528 = .ok (.iadd, 1) := by decide +kernel
theorem dL_law__2529 : decode cL_law_ 2529 = .ok (.iaload, 1) := by decide +kernel
theorem dL_law__2530 : decode cL_law_ 2530 = .ok (.ifCond .eq 7, 3) := by decide +kernel
theorem dL_law__2533 : decode cL_law_ 2533 = .ok (.iconst 1, 1) := by decide +kernel
theorem dL_law__2534 : decode cL_law_ 2534 = .ok (.goto 4, 3) := by decide +kernel
theorem dL_law__2537 : decode cL_law_ 2537 = .ok (.iconst 0, 1) := by decide +kernel
theorem dL_law__2538 : decode cL_law_ 2538 = .ok (.aload_n 3, 1) := by decide +kernel
theorem dL_law__2539 : decode cL_law_ 2539 = .ok (.invokestatic 280, 3) := by decide +kernel
theorem dL_law__2542 : decode cL_law_ 2542 = .ok (.istore 5, 2) := by decide +kernel
theorem dL_law__2544 : decode cL_law_ 2544 = .ok (.aload_n 2, 1) := by decide +kernel
theorem dL_law__2545 : decode cL_law_ 2545 = .ok (.aload_n 0, 1) := by decide +kernel
theorem dL_law__2546 : decode cL_law_ 2546 = .ok (.iload 4, 2) := by decide +kernel
theorem dL_law__2548 : decode cL_law_ 2548 = .ok (.iconst 1, 1) := by decide +kernel
theorem dL_law__2549 : decode cL_law_ 2549 = .ok (.iadd, 1) := by decide +kernel
theorem dL_law__2550 : decode cL_law_ 2550 = .ok (.iaload, 1) := by decide +kernel
theorem dL_law__2551 : decode cL_law_ 2551 = .ok (.aload_n 0, 1) := by decide +kernel
theorem dL_law__2552 : decode cL_law_ 2552 = .ok (.iload 4, 2) := by decide +kernel
theorem dL_law__2554 : decode cL_law_ 2554 = .ok (.iconst 2, 1) := by decide +kernel
theorem dL_law__2555 : decode cL_law_ 2555 = .ok (.iadd, 1) := by decide +kernel
theorem dL_law__2556 : decode cL_law_ 2556 = .ok (.iaload, 1) := by decide +kernel
theorem dL_law__2557 : decode cL_law_ 2557 = .ok (.aload_n 0, 1) := by decide +kernel
theorem dL_law__2558 : decode cL_law_ 2558 = .ok (.iload 4, 2) := by decide +kernel
theorem dL_law__2560 : decode cL_law_ 2560 = .ok (.iconst 3, 1) := by decide +kernel
theorem dL_law__2561 : decode cL_law_ 2561 = .ok (.iadd, 1) := by decide +kernel
theorem dL_law__2562 : decode cL_law_ 2562 = .ok (.iaload, 1) := by decide +kernel
theorem dL_law__2563 : decode cL_law_ 2563 = .ok (.ifCond .eq 7, 3) := by decide +kernel
theorem dL_law__2566 : decode cL_law_ 2566 = .ok (.iconst 1, 1) := by decide +kernel
theorem dL_law__2567 : decode cL_law_ 2567 = .ok (.goto 4, 3) := by decide +kernel
theorem dL_law__2570 : decode cL_law_ 2570 = .ok (.iconst 0, 1) := by decide +kernel
theorem dL_law__2571 : decode cL_law_ 2571 = .ok (.invokevirtual 282, 3) := by decide +kernel
theorem dL_law__2574 : decode cL_law_ 2574 = .ok (.istore 6, 2) := by decide +kernel
theorem dL_law__2576 : decode cL_law_ 2576 = .ok (.aload_n 2, 1) := by decide +kernel
theorem dL_law__2577 : decode cL_law_ 2577 = .ok (.invokevirtual 144, 3) := by decide +kernel
theorem dL_law__2580 : decode cL_law_ 2580 = .ok (.iload 5, 2) := by decide +kernel
theorem dL_law__2582 : decode cL_law_ 2582 = .ok (.if_icmp .eq 5, 3) := by decide +kernel
theorem dL_law__2585 : decode cL_law_ 2585 = .ok (.iconst 0, 1) := by decide +kernel
theorem dL_law__2586 : decode cL_law_ 2586 = .ok (.ireturn, 1) := by decide +kernel
theorem dL_law__2587 : decode cL_law_ 2587 = .ok (.iload 5, 2) := by decide +kernel
theorem dL_law__2589 : decode cL_law_ 2589 = .ok (.ifCond .ne 15, 3) := by decide +kernel
theorem dL_law__2592 : decode cL_law_ 2592 = .ok (.aload_n 3, 1) := by decide +kernel
theorem dL_law__2593 : decode cL_law_ 2593 = .ok (.iconst 0, 1) := by decide +kernel
theorem dL_law__2594 : decode cL_law_ 2594 = .ok (.laload, 1) := by decide +kernel
theorem dL_law__2595 : decode cL_law_ 2595 = .ok (.iload 6, 2) := by decide +kernel
theorem dL_law__2597 : decode cL_law_ 2597 = .ok (.i2l, 1) := by decide +kernel
theorem dL_law__2598 : decode cL_law_ 2598 = .ok (.lcmp, 1) := by decide +kernel
theorem dL_law__2599 : decode cL_law_ 2599 = .ok (.ifCond .eq 5, 3) := by decide +kernel
theorem dL_law__2602 : decode cL_law_ 2602 = .ok (.iconst 0, 1) := by decide +kernel
theorem dL_law__2603 : decode cL_law_ 2603 = .ok (.ireturn, 1) := by decide +kernel
theorem dL_law__2604 : decode cL_law_ 2604 = .ok (.goto 214, 3) := by decide +kernel
theorem dL_law__2607 : decode cL_law_ 2607 = .ok (.aload_n 1, 1) := by decide +kernel
theorem dL_law__2608 : decode cL_law_ 2608 = .ok (.aload_n 0, 1) := by decide +kernel
theorem dL_law__2609 : decode cL_law_ 2609 = .ok (.iload 4, 2) := by decide +kernel
theorem dL_law__2611 : decode cL_law_ 2611 = .ok (.iconst 1, 1) := by decide +kernel
theorem dL_law__2612 : decode cL_law_ 2612 = .ok (.iadd, 1) := by decide +kernel
theorem dL_law__2613 : decode cL_law_ 2613 = .ok (.iaload, 1) := by decide +kernel
theorem dL_law__2614 : decode cL_law_ 2614 = .ok (.aload_n 3, 1) := by decide +kernel
theorem dL_law__2615 : decode cL_law_ 2615 = .ok (.invokestatic 283, 3) := by decide +kernel
theorem dL_law__2618 : decode cL_law_ 2618 = .ok (.istore 5, 2) := by decide +kernel
theorem dL_law__2620 : decode cL_law_ 2620 = .ok (.aload_n 2, 1) := by decide +kernel
theorem dL_law__2621 : decode cL_law_ 2621 = .ok (.aload_n 0, 1) := by decide +kernel
theorem dL_law__2622 : decode cL_law_ 2622 = .ok (.iload 4, 2) := by decide +kernel
theorem dL_law__2624 : decode cL_law_ 2624 = .ok (.iconst 1, 1) := by decide +kernel
theorem dL_law__2625 : decode cL_law_ 2625 = .ok (.iadd, 1) := by decide +kernel
theorem dL_law__2626 : decode cL_law_ 2626 = .ok (.iaload, 1) := by decide +kernel
theorem dL_law__2627 : decode cL_law_ 2627 = .ok (.invokevirtual 285, 3) := by decide +kernel
theorem dL_law__2630 : decode cL_law_ 2630 = .ok (.istore 6, 2) := by decide +kernel
theorem dL_law__2632 : decode cL_law_ 2632 = .ok (.aload_n 2, 1) := by decide +kernel
theorem dL_law__2633 : decode cL_law_ 2633 = .ok (.invokevirtual 144, 3) := by decide +kernel
theorem dL_law__2636 : decode cL_law_ 2636 = .ok (.iload 5, 2) := by decide +kernel
theorem dL_law__2638 : decode cL_law_ 2638 = .ok (.if_icmp .eq 5, 3) := by decide +kernel
theorem dL_law__2641 : decode cL_law_ 2641 = .ok (.iconst 0, 1) := by decide +kernel
theorem dL_law__2642 : decode cL_law_ 2642 = .ok (.ireturn, 1) := by decide +kernel
theorem dL_law__2643 : decode cL_law_ 2643 = .ok (.iload 5, 2) := by decide +kernel
theorem dL_law__2645 : decode cL_law_ 2645 = .ok (.ifCond .ne 15, 3) := by decide +kernel
theorem dL_law__2648 : decode cL_law_ 2648 = .ok (.aload_n 3, 1) := by decide +kernel
theorem dL_law__2649 : decode cL_law_ 2649 = .ok (.iconst 0, 1) := by decide +kernel
theorem dL_law__2650 : decode cL_law_ 2650 = .ok (.laload, 1) := by decide +kernel
theorem dL_law__2651 : decode cL_law_ 2651 = .ok (.iload 6, 2) := by decide +kernel
theorem dL_law__2653 : decode cL_law_ 2653 = .ok (.i2l, 1) := by decide +kernel
theorem dL_law__2654 : decode cL_law_ 2654 = .ok (.lcmp, 1) := by decide +kernel
theorem dL_law__2655 : decode cL_law_ 2655 = .ok (.ifCond .eq 5, 3) := by decide +kernel
theorem dL_law__2658 : decode cL_law_ 2658 = .ok (.iconst 0, 1) := by decide +kernel
theorem dL_law__2659 : decode cL_law_ 2659 = .ok (.ireturn, 1) := by decide +kernel
theorem dL_law__2660 : decode cL_law_ 2660 = .ok (.goto 158, 3) := by decide +kernel
theorem dL_law__2663 : decode cL_law_ 2663 = .ok (.aload_n 1, 1) := by decide +kernel
theorem dL_law__2664 : decode cL_law_ 2664 = .ok (.aload_n 0, 1) := by decide +kernel
theorem dL_law__2665 : decode cL_law_ 2665 = .ok (.iload 4, 2) := by decide +kernel
theorem dL_law__2667 : decode cL_law_ 2667 = .ok (.iconst 1, 1) := by decide +kernel
theorem dL_law__2668 : decode cL_law_ 2668 = .ok (.iadd, 1) := by decide +kernel
theorem dL_law__2669 : decode cL_law_ 2669 = .ok (.iaload, 1) := by decide +kernel
theorem dL_law__2670 : decode cL_law_ 2670 = .ok (.aload_n 0, 1) := by decide +kernel
theorem dL_law__2671 : decode cL_law_ 2671 = .ok (.iload 4, 2) := by decide +kernel
theorem dL_law__2673 : decode cL_law_ 2673 = .ok (.iconst 2, 1) := by decide +kernel
theorem dL_law__2674 : decode cL_law_ 2674 = .ok (.iadd, 1) := by decide +kernel
theorem dL_law__2675 : decode cL_law_ 2675 = .ok (.iaload, 1) := by decide +kernel
theorem dL_law__2676 : decode cL_law_ 2676 = .ok (.aload_n 3, 1) := by decide +kernel
theorem dL_law__2677 : decode cL_law_ 2677 = .ok (.invokestatic 286, 3) := by decide +kernel
theorem dL_law__2680 : decode cL_law_ 2680 = .ok (.istore 5, 2) := by decide +kernel
theorem dL_law__2682 : decode cL_law_ 2682 = .ok (.aload_n 2, 1) := by decide +kernel
theorem dL_law__2683 : decode cL_law_ 2683 = .ok (.aload_n 0, 1) := by decide +kernel
theorem dL_law__2684 : decode cL_law_ 2684 = .ok (.iload 4, 2) := by decide +kernel
theorem dL_law__2686 : decode cL_law_ 2686 = .ok (.iconst 1, 1) := by decide +kernel
theorem dL_law__2687 : decode cL_law_ 2687 = .ok (.iadd, 1) := by decide +kernel
theorem dL_law__2688 : decode cL_law_ 2688 = .ok (.iaload, 1) := by decide +kernel
theorem dL_law__2689 : decode cL_law_ 2689 = .ok (.aload_n 0, 1) := by decide +kernel
theorem dL_law__2690 : decode cL_law_ 2690 = .ok (.iload 4, 2) := by decide +kernel
theorem dL_law__2692 : decode cL_law_ 2692 = .ok (.iconst 2, 1) := by decide +kernel
theorem dL_law__2693 : decode cL_law_ 2693 = .ok (.iadd, 1) := by decide +kernel
theorem dL_law__2694 : decode cL_law_ 2694 = .ok (.iaload, 1) := by decide +kernel
theorem dL_law__2695 : decode cL_law_ 2695 = .ok (.invokevirtual 288, 3) := by decide +kernel
theorem dL_law__2698 : decode cL_law_ 2698 = .ok (.istore 6, 2) := by decide +kernel
theorem dL_law__2700 : decode cL_law_ 2700 = .ok (.aload_n 2, 1) := by decide +kernel
theorem dL_law__2701 : decode cL_law_ 2701 = .ok (.invokevirtual 144, 3) := by decide +kernel
theorem dL_law__2704 : decode cL_law_ 2704 = .ok (.iload 5, 2) := by decide +kernel
theorem dL_law__2706 : decode cL_law_ 2706 = .ok (.if_icmp .eq 5, 3) := by decide +kernel
theorem dL_law__2709 : decode cL_law_ 2709 = .ok (.iconst 0, 1) := by decide +kernel
theorem dL_law__2710 : decode cL_law_ 2710 = .ok (.ireturn, 1) := by decide +kernel
theorem dL_law__2711 : decode cL_law_ 2711 = .ok (.iload 5, 2) := by decide +kernel
theorem dL_law__2713 : decode cL_law_ 2713 = .ok (.ifCond .ne 15, 3) := by decide +kernel
theorem dL_law__2716 : decode cL_law_ 2716 = .ok (.aload_n 3, 1) := by decide +kernel
theorem dL_law__2717 : decode cL_law_ 2717 = .ok (.iconst 0, 1) := by decide +kernel
theorem dL_law__2718 : decode cL_law_ 2718 = .ok (.laload, 1) := by decide +kernel
theorem dL_law__2719 : decode cL_law_ 2719 = .ok (.iload 6, 2) := by decide +kernel
theorem dL_law__2721 : decode cL_law_ 2721 = .ok (.i2l, 1) := by decide +kernel
theorem dL_law__2722 : decode cL_law_ 2722 = .ok (.lcmp, 1) := by decide +kernel
theorem dL_law__2723 : decode cL_law_ 2723 = .ok (.ifCond .eq 5, 3) := by decide +kernel
theorem dL_law__2726 : decode cL_law_ 2726 = .ok (.iconst 0, 1) := by decide +kernel
theorem dL_law__2727 : decode cL_law_ 2727 = .ok (.ireturn, 1) := by decide +kernel
theorem dL_law__2728 : decode cL_law_ 2728 = .ok (.goto 90, 3) := by decide +kernel
theorem dL_law__2731 : decode cL_law_ 2731 = .ok (.aload_n 1, 1) := by decide +kernel
theorem dL_law__2732 : decode cL_law_ 2732 = .ok (.aload_n 0, 1) := by decide +kernel
theorem dL_law__2733 : decode cL_law_ 2733 = .ok (.iload 4, 2) := by decide +kernel
theorem dL_law__2735 : decode cL_law_ 2735 = .ok (.iconst 1, 1) := by decide +kernel
theorem dL_law__2736 : decode cL_law_ 2736 = .ok (.iadd, 1) := by decide +kernel
theorem dL_law__2737 : decode cL_law_ 2737 = .ok (.iaload, 1) := by decide +kernel
theorem dL_law__2738 : decode cL_law_ 2738 = .ok (.invokevirtual 289, 3) := by decide +kernel
theorem dL_law__2741 : decode cL_law_ 2741 = .ok (.aload_n 2, 1) := by decide +kernel
theorem dL_law__2742 : decode cL_law_ 2742 = .ok (.aload_n 0, 1) := by decide +kernel
theorem dL_law__2743 : decode cL_law_ 2743 = .ok (.iload 4, 2) := by decide +kernel
theorem dL_law__2745 : decode cL_law_ 2745 = .ok (.iconst 1, 1) := by decide +kernel
theorem dL_law__2746 : decode cL_law_ 2746 = .ok (.iadd, 1) := by decide +kernel
theorem dL_law__2747 : decode cL_law_ 2747 = .ok (.iaload, 1) := by decide +kernel
theorem dL_law__2748 : decode cL_law_ 2748 = .ok (.invokevirtual 292, 3) := by decide +kernel
theorem dL_law__2751 : decode cL_law_ 2751 = .ok (.if_icmp .eq 67, 3) := by decide +kernel
theorem dL_law__2754 : decode cL_law_ 2754 = .ok (.iconst 0, 1) := by decide +kernel
theorem dL_law__2755 : decode cL_law_ 2755 = .ok (.ireturn, 1) := by decide +kernel
theorem dL_law__2756 : decode cL_law_ 2756 = .ok (.aload_n 1, 1) := by decide +kernel
theorem dL_law__2757 : decode cL_law_ 2757 = .ok (.invokevirtual 293, 3) := by decide +kernel
theorem dL_law__2760 : decode cL_law_ 2760 = .ok (.aload_n 2, 1) := by decide +kernel
theorem dL_law__2761 : decode cL_law_ 2761 = .ok (.invokevirtual 296, 3) := by decide +kernel
theorem dL_law__2764 : decode cL_law_ 2764 = .ok (.if_icmp .eq 54, 3) := by decide +kernel
theorem dL_law__2767 : decode cL_law_ 2767 = .ok (.iconst 0, 1) := by decide +kernel
theorem dL_law__2768 : decode cL_law_ 2768 = .ok (.ireturn, 1) := by decide +kernel
theorem dL_law__2769 : decode cL_law_ 2769 = .ok (.aload_n 1, 1) := by decide +kernel
theorem dL_law__2770 : decode cL_law_ 2770 = .ok (.invokevirtual 297, 3) := by decide +kernel
theorem dL_law__2773 : decode cL_law_ 2773 = .ok (.aload_n 2, 1) := by decide +kernel
theorem dL_law__2774 : decode cL_law_ 2774 = .ok (.invokevirtual 300, 3) := by decide +kernel
theorem dL_law__2777 : decode cL_law_ 2777 = .ok (.goto 41, 3) := by decide +kernel
theorem dL_law__2780 : decode cL_law_ 2780 = .ok (.aload_n 1, 1) := by decide +kernel
theorem dL_law__2781 : decode cL_law_ 2781 = .ok (.invokevirtual 301, 3) := by decide +kernel
theorem dL_law__2784 : decode cL_law_ 2784 = .ok (.aload_n 2, 1) := by decide +kernel
theorem dL_law__2785 : decode cL_law_ 2785 = .ok (.invokevirtual 304, 3) := by decide +kernel
theorem dL_law__2788 : decode cL_law_ 2788 = .ok (.if_icmp .eq 30, 3) := by decide +kernel
theorem dL_law__2791 : decode cL_law_ 2791 = .ok (.iconst 0, 1) := by decide +kernel
theorem dL_law__2792 : decode cL_law_ 2792 = .ok (.ireturn, 1) := by decide +kernel
theorem dL_law__2793 : decode cL_law_ 2793 = .ok (.aload_n 1, 1) := by decide +kernel
theorem dL_law__2794 : decode cL_law_ 2794 = .ok (.aload_n 0, 1) := by decide +kernel
theorem dL_law__2795 : decode cL_law_ 2795 = .ok (.iload 4, 2) := by decide +kernel
theorem dL_law__2797 : decode cL_law_ 2797 = .ok (.iconst 1, 1) := by decide +kernel
theorem dL_law__2798 : decode cL_law_ 2798 = .ok (.iadd, 1) := by decide +kernel
theorem dL_law__2799 : decode cL_law_ 2799 = .ok (.iaload, 1) := by decide +kernel
theorem dL_law__2800 : decode cL_law_ 2800 = .ok (.invokevirtual 305, 3) := by decide +kernel
theorem dL_law__2803 : decode cL_law_ 2803 = .ok (.aload_n 2, 1) := by decide +kernel
theorem dL_law__2804 : decode cL_law_ 2804 = .ok (.aload_n 0, 1) := by decide +kernel
theorem dL_law__2805 : decode cL_law_ 2805 = .ok (.iload 4, 2) := by decide +kernel
theorem dL_law__2807 : decode cL_law_ 2807 = .ok (.iconst 1, 1) := by decide +kernel
theorem dL_law__2808 : decode cL_law_ 2808 = .ok (.iadd, 1) := by decide +kernel
theorem dL_law__2809 : decode cL_law_ 2809 = .ok (.iaload, 1) := by decide +kernel
theorem dL_law__2810 : decode cL_law_ 2810 = .ok (.invokevirtual 308, 3) := by decide +kernel
theorem dL_law__2813 : decode cL_law_ 2813 = .ok (.if_icmp .eq 5, 3) := by decide +kernel
theorem dL_law__2816 : decode cL_law_ 2816 = .ok (.iconst 0, 1) := by decide +kernel
theorem dL_law__2817 : decode cL_law_ 2817 = .ok (.ireturn, 1) := by decide +kernel
theorem dL_law__2818 : decode cL_law_ 2818 = .ok (.iinc 4 6, 3) := by decide +kernel
theorem dL_law__2821 : decode cL_law_ 2821 = .ok (.goto (-2798), 3) := by decide +kernel
theorem dL_law__2824 : decode cL_law_ 2824 = .ok (.iconst 1, 1) := by decide +kernel
theorem dL_law__2825 : decode cL_law_ 2825 = .ok (.ireturn, 1) := by decide +kernel
