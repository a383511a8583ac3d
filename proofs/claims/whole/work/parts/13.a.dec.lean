theorem dX0_init_0 : decode cX0_init 0 = .ok (.aload_n 0, 1) := by decide +kernel
theorem dX0_init_1 : decode cX0_init 1 = .ok (.invokespecial 3, 3) := by decide +kernel
theorem dX0_init_4 : decode cX0_init 4 = .ok (.aload_n 0, 1) := by decide +kernel
theorem dX0_init_5 : decode cX0_init 5 = .ok (.aload_n 1, 1) := by decide +kernel
theorem dX0_init_6 : decode cX0_init 6 = .ok (.putfield 9, 3) := by decide +kernel
theorem dX0_init_9 : decode cX0_init 9 = .ok (.aload_n 0, 1) := by decide +kernel
theorem dX0_init_10 : decode cX0_init 10 = .ok (.aload_n 2, 1) := by decide +kernel
theorem dX0_init_11 : decode cX0_init 11 = .ok (.putfield 15, 3) := by decide +kernel
theorem dX0_init_14 : decode cX0_init 14 = .ok (.aload_n 0, 1) := by decide +kernel
theorem dX0_init_15 : decode cX0_init 15 = .ok (.aload_n 3, 1) := by decide +kernel
theorem dX0_init_16 : decode cX0_init 16 = .ok (.putfield 19, 3) := by decide +kernel
theorem dX0_init_19 : decode cX0_init 19 = .ok (.aload_n 0, 1) := by decide +kernel
theorem dX0_init_20 : decode cX0_init 20 = .ok (.bipush 9, 2) := by decide +kernel
theorem dX0_init_22 : decode cX0_init 22 = .ok (.newarray .int, 2) := by decide +kernel
theorem dX0_init_24 : decode cX0_init 24 = .ok (.putfield 25, 3) := by decide +kernel
theorem dX0_init_27 : decode cX0_init 27 = .ok (.aload_n 0, 1) := by decide +kernel
theorem dX0_init_28 : decode cX0_init 28 = .ok (.bipush 40, 2) := by decide +kernel
theorem dX0_init_30 : decode cX0_init 30 = .ok (.newarray .int, 2) := by decide +kernel
theorem dX0_init_32 : decode cX0_init 32 = .ok (.putfield 29, 3) := by decide +kernel
theorem dX0_init_35 : decode cX0_init 35 = .ok (.aload_n 0, 1) := by decide +kernel
theorem dX0_init_36 : decode cX0_init 36 = .ok (.sipush 403, 3) := by decide +kernel
theorem dX0_init_39 : decode cX0_init 39 = .ok (.newarray .int, 2) := by decide +kernel
theorem dX0_init_41 : decode cX0_init 41 = .ok (.putfield 32, 3) := by decide +kernel
theorem dX0_init_44 : decode cX0_init 44 = .ok (.aload_n 0, 1) := by decide +kernel
theorem dX0_init_45 : decode cX0_init 45 = .ok (.getfield 32, 3) := by decide +kernel
theorem dX0_init_48 : decode cX0_init 48 = .ok (.iconst (-1), 1) := by decide +kernel
theorem dX0_init_49 : decode cX0_init 49 = .ok (.invokestatic 35, 3) := by decide +kernel
theorem dX0_init_52 : decode cX0_init 52 = .ok (.return_, 1) := by decide +kernel
theorem dX0_forgetWhites_0 : decode cX0_forgetWhites 0 = .ok (.aload_n 0, 1) := by decide +kernel
theorem dX0_forgetWhites_1 : decode cX0_forgetWhites 1 = .ok (.getfield 32, 3) := by decide +kernel
theorem dX0_forgetWhites_4 : decode cX0_forgetWhites 4 = .ok (.iconst (-1), 1) := by decide +kernel
theorem dX0_forgetWhites_5 : decode cX0_forgetWhites 5 = .ok (.invokestatic 35, 3) := by decide +kernel
theorem dX0_forgetWhites_8 : decode cX0_forgetWhites 8 = .ok (.return_, 1) := by decide +kernel
theorem dX0_widthOf_0 : decode cX0_widthOf 0 = .ok (.aload_n 0, 1) := by decide +kernel
theorem dX0_widthOf_1 : decode cX0_widthOf 1 = .ok (.getfield 9, 3) := by decide +kernel
theorem dX0_widthOf_4 : decode cX0_widthOf 4 = .ok (.getfield 41, 3) := by decide +kernel
theorem dX0_widthOf_7 : decode cX0_widthOf 7 = .ok (.aload_n 0, 1) := by decide +kernel
theorem dX0_widthOf_8 : decode cX0_widthOf 8 = .ok (.getfield 9, 3) := by decide +kernel
theorem dX0_widthOf_11 : decode cX0_widthOf 11 = .ok (.getfield 46, 3) := by decide +kernel
theorem dX0_widthOf_14 : decode cX0_widthOf 14 = .ok (.iload_n 1, 1) := by decide +kernel
theorem dX0_widthOf_15 : decode cX0_widthOf 15 = .ok (.iaload, 1) := by decide +kernel
theorem dX0_widthOf_16 : decode cX0_widthOf 16 = .ok (.iaload, 1) := by decide +kernel
theorem dX0_widthOf_17 : decode cX0_widthOf 17 = .ok (.aload_n 0, 1) := by decide +kernel
theorem dX0_widthOf_18 : decode cX0_widthOf 18 = .ok (.getfield 19, 3) := by decide +kernel
theorem dX0_widthOf_21 : decode cX0_widthOf 21 = .ok (.getfield 49, 3) := by decide +kernel
theorem dX0_widthOf_24 : decode cX0_widthOf 24 = .ok (.iload_n 1, 1) := by decide +kernel
theorem dX0_widthOf_25 : decode cX0_widthOf 25 = .ok (.iaload, 1) := by decide +kernel
theorem dX0_widthOf_26 : decode cX0_widthOf 26 = .ok (.isub, 1) := by decide +kernel
theorem dX0_widthOf_27 : decode cX0_widthOf 27 = .ok (.ireturn, 1) := by decide +kernel
theorem dX0_beginOf_0 : decode cX0_beginOf 0 = .ok (.aload_n 0, 1) := by decide +kernel
theorem dX0_beginOf_1 : decode cX0_beginOf 1 = .ok (.getfield 9, 3) := by decide +kernel
theorem dX0_beginOf_4 : decode cX0_beginOf 4 = .ok (.getfield 54, 3) := by decide +kernel
theorem dX0_beginOf_7 : decode cX0_beginOf 7 = .ok (.istore_n 2, 1) := by decide +kernel
theorem dX0_beginOf_8 : decode cX0_beginOf 8 = .ok (.iconst 0, 1) := by decide +kernel
theorem dX0_beginOf_9 : decode cX0_beginOf 9 = .ok (.istore_n 3, 1) := by decide +kernel
theorem dX0_beginOf_10 : decode cX0_beginOf 10 = .ok (.iload_n 3, 1) := by decide +kernel
theorem dX0_beginOf_11 : decode cX0_beginOf 11 = .ok (.iload_n 1, 1) := by decide +kernel
theorem dX0_beginOf_12 : decode cX0_beginOf 12 = .ok (.if_icmp .ge 27, 3) := by decide +kernel
theorem dX0_beginOf_15 : decode cX0_beginOf 15 = .ok (.iload_n 2, 1) := by decide +kernel
theorem dX0_beginOf_16 : decode cX0_beginOf 16 = .ok (.aload_n 0, 1) := by decide +kernel
theorem dX0_beginOf_17 : decode cX0_beginOf 17 = .ok (.iload_n 3, 1) := by decide +kernel
theorem dX0_beginOf_18 : decode cX0_beginOf 18 = .ok (.invokevirtual 58, 3) := by decide +kernel
theorem dX0_beginOf_21 : decode cX0_beginOf 21 = .ok (.aload_n 0, 1) := by decide +kernel
theorem dX0_beginOf_22 : decode cX0_beginOf 22 = .ok (.getfield 19, 3) := by decide +kernel
theorem dX0_beginOf_25 : decode cX0_beginOf 25 = .ok (.getfield 62, 3) := by decide +kernel
theorem dX0_beginOf_28 : decode cX0_beginOf 28 = .ok (.iload_n 3, 1) := by decide +kernel
theorem dX0_beginOf_29 : decode cX0_beginOf 29 = .ok (.iaload, 1) := by decide +kernel
theorem dX0_beginOf_30 : decode cX0_beginOf 30 = .ok (.iadd, 1) := by decide +kernel
theorem dX0_beginOf_31 : decode cX0_beginOf 31 = .ok (.iadd, 1) := by decide +kernel
theorem dX0_beginOf_32 : decode cX0_beginOf 32 = .ok (.istore_n 2, 1) := by decide +kernel
theorem dX0_beginOf_33 : decode cX0_beginOf 33 = .ok (.iinc 3 1, 3) := by decide +kernel
theorem dX0_beginOf_36 : decode cX0_beginOf 36 = .ok (.goto (-26), 3) := by decide +kernel
theorem dX0_beginOf_39 : decode cX0_beginOf 39 = .ok (.iload_n 2, 1) := by decide +kernel
theorem dX0_beginOf_40 : decode cX0_beginOf 40 = .ok (.ireturn, 1) := by decide +kernel
theorem dX0_endOfWord_0 : decode cX0_endOfWord 0 = .ok (.aload_n 0, 1) := by decide +kernel
theorem dX0_endOfWord_1 : decode cX0_endOfWord 1 = .ok (.getfield 9, 3) := by decide +kernel
theorem dX0_endOfWord_4 : decode cX0_endOfWord 4 = .ok (.getfield 65, 3) := by decide +kernel
theorem dX0_endOfWord_7 : decode cX0_endOfWord 7 = .ok (.iconst 1, 1) := by decide +kernel
theorem dX0_endOfWord_8 : decode cX0_endOfWord 8 = .ok (.isub, 1) := by decide +kernel
theorem dX0_endOfWord_9 : decode cX0_endOfWord 9 = .ok (.istore_n 1, 1) := by decide +kernel
theorem dX0_endOfWord_10 : decode cX0_endOfWord 10 = .ok (.iload_n 1, 1) := by decide +kernel
theorem dX0_endOfWord_11 : decode cX0_endOfWord 11 = .ok (.ifCond .ge 13, 3) := by decide +kernel
theorem dX0_endOfWord_14 : decode cX0_endOfWord 14 = .ok (.aload_n 0, 1) := by decide +kernel
theorem dX0_endOfWord_15 : decode cX0_endOfWord 15 = .ok (.getfield 9, 3) := by decide +kernel
theorem dX0_endOfWord_18 : decode cX0_endOfWord 18 = .ok (.getfield 54, 3) := by decide +kernel
theorem dX0_endOfWord_21 : decode cX0_endOfWord 21 = .ok (.goto 14, 3) := by decide +kernel
theorem dX0_endOfWord_24 : decode cX0_endOfWord 24 = .ok (.aload_n 0, 1) := by decide +kernel
theorem dX0_endOfWord_25 : decode cX0_endOfWord 25 = .ok (.iload_n 1, 1) := by decide +kernel
theorem dX0_endOfWord_26 : decode cX0_endOfWord 26 = .ok (.invokevirtual 68, 3) := by decide +kernel
theorem dX0_endOfWord_29 : decode cX0_endOfWord 29 = .ok (.aload_n 0, 1) := by decide +kernel
theorem dX0_endOfWord_30 : decode cX0_endOfWord 30 = .ok (.iload_n 1, 1) := by decide +kernel
theorem dX0_endOfWord_31 : decode cX0_endOfWord 31 = .ok (.invokevirtual 58, 3) := by decide +kernel
theorem dX0_endOfWord_34 : decode cX0_endOfWord 34 = .ok (.iadd, 1) := by decide +kernel
theorem dX0_endOfWord_35 : decode cX0_endOfWord 35 = .ok (.ireturn, 1) := by decide +kernel
theorem dX0_fitsWith_0 : decode cX0_fitsWith 0 = .ok (.aload_n 0, 1) := by decide +kernel
theorem dX0_fitsWith_1 : decode cX0_fitsWith 1 = .ok (.invokevirtual 71, 3) := by decide +kernel
theorem dX0_fitsWith_4 : decode cX0_fitsWith 4 = .ok (.iload_n 1, 1) := by decide +kernel
theorem dX0_fitsWith_5 : decode cX0_fitsWith 5 = .ok (.iadd, 1) := by decide +kernel
theorem dX0_fitsWith_6 : decode cX0_fitsWith 6 = .ok (.aload_n 0, 1) := by decide +kernel
theorem dX0_fitsWith_7 : decode cX0_fitsWith 7 = .ok (.getfield 9, 3) := by decide +kernel
theorem dX0_fitsWith_10 : decode cX0_fitsWith 10 = .ok (.getfield 75, 3) := by decide +kernel
theorem dX0_fitsWith_13 : decode cX0_fitsWith 13 = .ok (.aload_n 0, 1) := by decide +kernel
theorem dX0_fitsWith_14 : decode cX0_fitsWith 14 = .ok (.getfield 9, 3) := by decide +kernel
theorem dX0_fitsWith_17 : decode cX0_fitsWith 17 = .ok (.getfield 54, 3) := by decide +kernel
theorem dX0_fitsWith_20 : decode cX0_fitsWith 20 = .ok (.isub, 1) := by decide +kernel
theorem dX0_fitsWith_21 : decode cX0_fitsWith 21 = .ok (.if_icmp .gt 7, 3) := by decide +kernel
theorem dX0_fitsWith_24 : decode cX0_fitsWith 24 = .ok (.iconst 1, 1) := by decide +kernel
theorem dX0_fitsWith_25 : decode cX0_fitsWith 25 = .ok (.goto 4, 3) := by decide +kernel
theorem dX0_fitsWith_28 : decode cX0_fitsWith 28 = .ok (.iconst 0, 1) := by decide +kernel
theorem dX0_fitsWith_29 : decode cX0_fitsWith 29 = .ok (.ireturn, 1) := by decide +kernel
theorem dX0_freeHairs_0 : decode cX0_freeHairs 0 = .ok (.aload_n 0, 1) := by decide +kernel
theorem dX0_freeHairs_1 : decode cX0_freeHairs 1 = .ok (.getfield 9, 3) := by decide +kernel
theorem dX0_freeHairs_4 : decode cX0_freeHairs 4 = .ok (.getfield 75, 3) := by decide +kernel
theorem dX0_freeHairs_7 : decode cX0_freeHairs 7 = .ok (.iload_n 1, 1) := by decide +kernel
theorem dX0_freeHairs_8 : decode cX0_freeHairs 8 = .ok (.iadd, 1) := by decide +kernel
theorem dX0_freeHairs_9 : decode cX0_freeHairs 9 = .ok (.iconst 2, 1) := by decide +kernel
theorem dX0_freeHairs_10 : decode cX0_freeHairs 10 = .ok (.aload_n 0, 1) := by decide +kernel
theorem dX0_freeHairs_11 : decode cX0_freeHairs 11 = .ok (.getfield 9, 3) := by decide +kernel
theorem dX0_freeHairs_14 : decode cX0_freeHairs 14 = .ok (.getfield 54, 3) := by decide +kernel
theorem dX0_freeHairs_17 : decode cX0_freeHairs 17 = .ok (.imul, 1) := by decide +kernel
theorem dX0_freeHairs_18 : decode cX0_freeHairs 18 = .ok (.isub, 1) := by decide +kernel
theorem dX0_freeHairs_19 : decode cX0_freeHairs 19 = .ok (.aload_n 0, 1) := by decide +kernel
theorem dX0_freeHairs_20 : decode cX0_freeHairs 20 = .ok (.getfield 19, 3) := by decide +kernel
theorem dX0_freeHairs_23 : decode cX0_freeHairs 23 = .ok (.getfield 78, 3) := by decide +kernel
theorem dX0_freeHairs_26 : decode cX0_freeHairs 26 = .ok (.isub, 1) := by decide +kernel
theorem dX0_freeHairs_27 : decode cX0_freeHairs 27 = .ok (.istore_n 2, 1) := by decide +kernel
theorem dX0_freeHairs_28 : decode cX0_freeHairs 28 = .ok (.iconst 0, 1) := by decide +kernel
theorem dX0_freeHairs_29 : decode cX0_freeHairs 29 = .ok (.istore_n 3, 1) := by decide +kernel
theorem dX0_freeHairs_30 : decode cX0_freeHairs 30 = .ok (.iload_n 3, 1) := by decide +kernel
theorem dX0_freeHairs_31 : decode cX0_freeHairs 31 = .ok (.aload_n 0, 1) := by decide +kernel
theorem dX0_freeHairs_32 : decode cX0_freeHairs 32 = .ok (.getfield 9, 3) := by decide +kernel
theorem dX0_freeHairs_35 : decode cX0_freeHairs 35 = .ok (.getfield 65, 3) := by decide +kernel
theorem dX0_freeHairs_38 : decode cX0_freeHairs 38 = .ok (.if_icmp .ge 17, 3) := by decide +kernel
theorem dX0_freeHairs_41 : decode cX0_freeHairs 41 = .ok (.iload_n 2, 1) := by decide +kernel
theorem dX0_freeHairs_42 : decode cX0_freeHairs 42 = .ok (.aload_n 0, 1) := by decide +kernel
theorem dX0_freeHairs_43 : decode cX0_freeHairs 43 = .ok (.iload_n 3, 1) := by decide +kernel
theorem dX0_freeHairs_44 : decode cX0_freeHairs 44 = .ok (.invokevirtual 58, 3) := by decide +kernel
theorem dX0_freeHairs_47 : decode cX0_freeHairs 47 = .ok (.isub, 1) := by decide +kernel
theorem dX0_freeHairs_48 : decode cX0_freeHairs 48 = .ok (.istore_n 2, 1) := by decide +kernel
theorem dX0_freeHairs_49 : decode cX0_freeHairs 49 = .ok (.iinc 3 1, 3) := by decide +kernel
theorem dX0_freeHairs_52 : decode cX0_freeHairs 52 = .ok (.goto (-22), 3) := by decide +kernel
theorem dX0_freeHairs_55 : decode cX0_freeHairs 55 = .ok (.iload_n 2, 1) := by decide +kernel
theorem dX0_freeHairs_56 : decode cX0_freeHairs 56 = .ok (.ireturn, 1) := by decide +kernel
theorem dX0_spaceOf_0 : decode cX0_spaceOf 0 = .ok (.iconst 0, 1) := by decide +kernel
theorem dX0_spaceOf_1 : decode cX0_spaceOf 1 = .ok (.iload_n 3, 1) := by decide +kernel
theorem dX0_spaceOf_2 : decode cX0_spaceOf 2 = .ok (.iload 4, 2) := by decide +kernel
theorem dX0_spaceOf_4 : decode cX0_spaceOf 4 = .ok (.isub, 1) := by decide +kernel
theorem dX0_spaceOf_5 : decode cX0_spaceOf 5 = .ok (.invokestatic 81, 3) := by decide +kernel
theorem dX0_spaceOf_8 : decode cX0_spaceOf 8 = .ok (.aload_n 0, 1) := by decide +kernel
theorem dX0_spaceOf_9 : decode cX0_spaceOf 9 = .ok (.getfield 9, 3) := by decide +kernel
theorem dX0_spaceOf_12 : decode cX0_spaceOf 12 = .ok (.aload_n 0, 1) := by decide +kernel
theorem dX0_spaceOf_13 : decode cX0_spaceOf 13 = .ok (.getfield 9, 3) := by decide +kernel
theorem dX0_spaceOf_16 : decode cX0_spaceOf 16 = .ok (.getfield 46, 3) := by decide +kernel
theorem dX0_spaceOf_19 : decode cX0_spaceOf 19 = .ok (.iload_n 1, 1) := by decide +kernel
theorem dX0_spaceOf_20 : decode cX0_spaceOf 20 = .ok (.iaload, 1) := by decide +kernel
theorem dX0_spaceOf_21 : decode cX0_spaceOf 21 = .ok (.iload_n 2, 1) := by decide +kernel
theorem dX0_spaceOf_22 : decode cX0_spaceOf 22 = .ok (.invokevirtual 87, 3) := by decide +kernel
theorem dX0_spaceOf_25 : decode cX0_spaceOf 25 = .ok (.iadd, 1) := by decide +kernel
theorem dX0_spaceOf_26 : decode cX0_spaceOf 26 = .ok (.aload_n 0, 1) := by decide +kernel
theorem dX0_spaceOf_27 : decode cX0_spaceOf 27 = .ok (.getfield 9, 3) := by decide +kernel
theorem dX0_spaceOf_30 : decode cX0_spaceOf 30 = .ok (.aload_n 0, 1) := by decide +kernel
theorem dX0_spaceOf_31 : decode cX0_spaceOf 31 = .ok (.getfield 9, 3) := by decide +kernel
theorem dX0_spaceOf_34 : decode cX0_spaceOf 34 = .ok (.getfield 46, 3) := by decide +kernel
theorem dX0_spaceOf_37 : decode cX0_spaceOf 37 = .ok (.iload_n 1, 1) := by decide +kernel
theorem dX0_spaceOf_38 : decode cX0_spaceOf 38 = .ok (.iconst 1, 1) := by decide +kernel
theorem dX0_spaceOf_39 : decode cX0_spaceOf 39 = .ok (.iadd, 1) := by decide +kernel
theorem dX0_spaceOf_40 : decode cX0_spaceOf 40 = .ok (.iaload, 1) := by decide +kernel
theorem dX0_spaceOf_41 : decode cX0_spaceOf 41 = .ok (.iload_n 2, 1) := by decide +kernel
theorem dX0_spaceOf_42 : decode cX0_spaceOf 42 = .ok (.invokevirtual 90, 3) := by decide +kernel
theorem dX0_spaceOf_45 : decode cX0_spaceOf 45 = .ok (.iadd, 1) := by decide +kernel
theorem dX0_spaceOf_46 : decode cX0_spaceOf 46 = .ok (.istore 5, 2) := by decide +kernel
theorem dX0_spaceOf_48 : decode cX0_spaceOf 48 = .ok (.aload_n 0, 1) := by decide +kernel
theorem dX0_spaceOf_49 : decode cX0_spaceOf 49 = .ok (.getfield 9, 3) := by decide +kernel
theorem dX0_spaceOf_52 : decode cX0_spaceOf 52 = .ok (.getfield 93, 3) := by decide +kernel
theorem dX0_spaceOf_55 : decode cX0_spaceOf 55 = .ok (.iload 5, 2) := by decide +kernel
theorem dX0_spaceOf_57 : decode cX0_spaceOf 57 = .ok (.invokestatic 96, 3) := by decide +kernel
theorem dX0_spaceOf_60 : decode cX0_spaceOf 60 = .ok (.ireturn, 1) := by decide +kernel
theorem dX0_leastSpace_0 : decode cX0_leastSpace 0 = .ok (.aload_n 0, 1) := by decide +kernel
theorem dX0_leastSpace_1 : decode cX0_leastSpace 1 = .ok (.getfield 9, 3) := by decide +kernel
theorem dX0_leastSpace_4 : decode cX0_leastSpace 4 = .ok (.getfield 93, 3) := by decide +kernel
theorem dX0_leastSpace_7 : decode cX0_leastSpace 7 = .ok (.istore 4, 2) := by decide +kernel
theorem dX0_leastSpace_9 : decode cX0_leastSpace 9 = .ok (.iconst 0, 1) := by decide +kernel
theorem dX0_leastSpace_10 : decode cX0_leastSpace 10 = .ok (.istore 5, 2) := by decide +kernel
theorem dX0_leastSpace_12 : decode cX0_leastSpace 12 = .ok (.iload 5, 2) := by decide +kernel
theorem dX0_leastSpace_14 : decode cX0_leastSpace 14 = .ok (.iconst 5, 1) := by decide +kernel
theorem dX0_leastSpace_15 : decode cX0_leastSpace 15 = .ok (.if_icmp .ge 25, 3) := by decide +kernel
theorem dX0_leastSpace_18 : decode cX0_leastSpace 18 = .ok (.iload 4, 2) := by decide +kernel
theorem dX0_leastSpace_20 : decode cX0_leastSpace 20 = .ok (.aload_n 0, 1) := by decide +kernel
theorem dX0_leastSpace_21 : decode cX0_leastSpace 21 = .ok (.iload_n 1, 1) := by decide +kernel
theorem dX0_leastSpace_22 : decode cX0_leastSpace 22 = .ok (.iload 5, 2) := by decide +kernel
theorem dX0_leastSpace_24 : decode cX0_leastSpace 24 = .ok (.iload_n 2, 1) := by decide +kernel
theorem dX0_leastSpace_25 : decode cX0_leastSpace 25 = .ok (.iload_n 3, 1) := by decide +kernel
theorem dX0_leastSpace_26 : decode cX0_leastSpace 26 = .ok (.invokevirtual 99, 3) := by decide +kernel
theorem dX0_leastSpace_29 : decode cX0_leastSpace 29 = .ok (.invokestatic 96, 3) := by decide +kernel
theorem dX0_leastSpace_32 : decode cX0_leastSpace 32 = .ok (.istore 4, 2) := by decide +kernel
theorem dX0_leastSpace_34 : decode cX0_leastSpace 34 = .ok (.iinc 5 1, 3) := by decide +kernel
theorem dX0_leastSpace_37 : decode cX0_leastSpace 37 = .ok (.goto (-25), 3) := by decide +kernel
theorem dX0_leastSpace_40 : decode cX0_leastSpace 40 = .ok (.iload 4, 2) := by decide +kernel
theorem dX0_leastSpace_42 : decode cX0_leastSpace 42 = .ok (.ireturn, 1) := by decide +kernel
theorem dX0_whiteOf_0 : decode cX0_whiteOf 0 = .ok (.iload_n 1, 1) := by decide +kernel
theorem dX0_whiteOf_1 : decode cX0_whiteOf 1 = .ok (.bipush 31, 2) := by decide +kernel
theorem dX0_whiteOf_3 : decode cX0_whiteOf 3 = .ok (.imul, 1) := by decide +kernel
theorem dX0_whiteOf_4 : decode cX0_whiteOf 4 = .ok (.iload_n 2, 1) := by decide +kernel
theorem dX0_whiteOf_5 : decode cX0_whiteOf 5 = .ok (.iadd, 1) := by decide +kernel
theorem dX0_whiteOf_6 : decode cX0_whiteOf 6 = .ok (.istore_n 3, 1) := by decide +kernel
theorem dX0_whiteOf_7 : decode cX0_whiteOf 7 = .ok (.aload_n 0, 1) := by decide +kernel
theorem dX0_whiteOf_8 : decode cX0_whiteOf 8 = .ok (.getfield 32, 3) := by decide +kernel
theorem dX0_whiteOf_11 : decode cX0_whiteOf 11 = .ok (.iload_n 3, 1) := by decide +kernel
theorem dX0_whiteOf_12 : decode cX0_whiteOf 12 = .ok (.iaload, 1) := by decide +kernel
theorem dX0_whiteOf_13 : decode cX0_whiteOf 13 = .ok (.iconst (-1), 1) := by decide +kernel
theorem dX0_whiteOf_14 : decode cX0_whiteOf 14 = .ok (.if_icmp .ne 58, 3) := by decide +kernel
theorem dX0_whiteOf_17 : decode cX0_whiteOf 17 = .ok (.iconst 0, 1) := by decide +kernel
theorem dX0_whiteOf_18 : decode cX0_whiteOf 18 = .ok (.istore 4, 2) := by decide +kernel
theorem dX0_whiteOf_20 : decode cX0_whiteOf 20 = .ok (.iconst 0, 1) := by decide +kernel
theorem dX0_whiteOf_21 : decode cX0_whiteOf 21 = .ok (.istore 5, 2) := by decide +kernel
theorem dX0_whiteOf_23 : decode cX0_whiteOf 23 = .ok (.iload 5, 2) := by decide +kernel
theorem dX0_whiteOf_25 : decode cX0_whiteOf 25 = .ok (.iconst 5, 1) := by decide +kernel
theorem dX0_whiteOf_26 : decode cX0_whiteOf 26 = .ok (.if_icmp .ge 38, 3) := by decide +kernel
theorem dX0_whiteOf_29 : decode cX0_whiteOf 29 = .ok (.iload 4, 2) := by decide +kernel
theorem dX0_whiteOf_31 : decode cX0_whiteOf 31 = .ok (.aload_n 0, 1) := by decide +kernel
theorem dX0_whiteOf_32 : decode cX0_whiteOf 32 = .ok (.iload_n 1, 1) := by decide +kernel
theorem dX0_whiteOf_33 : decode cX0_whiteOf 33 = .ok (.iload 5, 2) := by decide +kernel
theorem dX0_whiteOf_35 : decode cX0_whiteOf 35 = .ok (.iload_n 2, 1) := by decide +kernel
theorem dX0_whiteOf_36 : decode cX0_whiteOf 36 = .ok (.aload_n 0, 1) := by decide +kernel
theorem dX0_whiteOf_37 : decode cX0_whiteOf 37 = .ok (.getfield 19, 3) := by decide +kernel
theorem dX0_whiteOf_40 : decode cX0_whiteOf 40 = .ok (.getfield 78, 3) := by decide +kernel
theorem dX0_whiteOf_43 : decode cX0_whiteOf 43 = .ok (.invokevirtual 99, 3) := by decide +kernel
theorem dX0_whiteOf_46 : decode cX0_whiteOf 46 = .ok (.aload_n 0, 1) := by decide +kernel
theorem dX0_whiteOf_47 : decode cX0_whiteOf 47 = .ok (.iload_n 1, 1) := by decide +kernel
theorem dX0_whiteOf_48 : decode cX0_whiteOf 48 = .ok (.iload 5, 2) := by decide +kernel
theorem dX0_whiteOf_50 : decode cX0_whiteOf 50 = .ok (.iload_n 2, 1) := by decide +kernel
theorem dX0_whiteOf_51 : decode cX0_whiteOf 51 = .ok (.invokevirtual 103, 3) := by decide +kernel
theorem dX0_whiteOf_54 : decode cX0_whiteOf 54 = .ok (.imul, 1) := by decide +kernel
theorem dX0_whiteOf_55 : decode cX0_whiteOf 55 = .ok (.iadd, 1) := by decide +kernel
theorem dX0_whiteOf_56 : decode cX0_whiteOf 56 = .ok (.istore 4, 2) := by decide +kernel
theorem dX0_whiteOf_58 : decode cX0_whiteOf 58 = .ok (.iinc 5 1, 3) := by decide +kernel
theorem dX0_whiteOf_61 : decode cX0_whiteOf 61 = .ok (.goto (-38), 3) := by decide +kernel
theorem dX0_whiteOf_64 : decode cX0_whiteOf 64 = .ok (.aload_n 0, 1) := by decide +kernel
theorem dX0_whiteOf_65 : decode cX0_whiteOf 65 = .ok (.getfield 32, 3) := by decide +kernel
theorem dX0_whiteOf_68 : decode cX0_whiteOf 68 = .ok (.iload_n 3, 1) := by decide +kernel
theorem dX0_whiteOf_69 : decode cX0_whiteOf 69 = .ok (.iload 4, 2) := by decide +kernel
theorem dX0_whiteOf_71 : decode cX0_whiteOf 71 = .ok (.iastore, 1) := by decide +kernel
theorem dX0_whiteOf_72 : decode cX0_whiteOf 72 = .ok (.aload_n 0, 1) := by decide +kernel
theorem dX0_whiteOf_73 : decode cX0_whiteOf 73 = .ok (.getfield 32, 3) := by decide +kernel
theorem dX0_whiteOf_76 : decode cX0_whiteOf 76 = .ok (.iload_n 3, 1) := by decide +kernel
theorem dX0_whiteOf_77 : decode cX0_whiteOf 77 = .ok (.iaload, 1) := by decide +kernel
theorem dX0_whiteOf_78 : decode cX0_whiteOf 78 = .ok (.ireturn, 1) := by decide +kernel
theorem dX0_weightOf_0 : decode cX0_weightOf 0 = .ok (.aload_n 0, 1) := by decide +kernel
theorem dX0_weightOf_1 : decode cX0_weightOf 1 = .ok (.getfield 15, 3) := by decide +kernel
theorem dX0_weightOf_4 : decode cX0_weightOf 4 = .ok (.getfield 107, 3) := by decide +kernel
theorem dX0_weightOf_7 : decode cX0_weightOf 7 = .ok (.iconst (-1), 1) := by decide +kernel
theorem dX0_weightOf_8 : decode cX0_weightOf 8 = .ok (.if_icmp .ne 5, 3) := by decide +kernel
theorem dX0_weightOf_11 : decode cX0_weightOf 11 = .ok (.iconst 1, 1) := by decide +kernel
theorem dX0_weightOf_12 : decode cX0_weightOf 12 = .ok (.ireturn, 1) := by decide +kernel
theorem dX0_weightOf_13 : decode cX0_weightOf 13 = .ok (.aload_n 0, 1) := by decide +kernel
theorem dX0_weightOf_14 : decode cX0_weightOf 14 = .ok (.getfield 9, 3) := by decide +kernel
theorem dX0_weightOf_17 : decode cX0_weightOf 17 = .ok (.getfield 46, 3) := by decide +kernel
theorem dX0_weightOf_20 : decode cX0_weightOf 20 = .ok (.iload_n 1, 1) := by decide +kernel
theorem dX0_weightOf_21 : decode cX0_weightOf 21 = .ok (.iaload, 1) := by decide +kernel
theorem dX0_weightOf_22 : decode cX0_weightOf 22 = .ok (.istore 4, 2) := by decide +kernel
theorem dX0_weightOf_24 : decode cX0_weightOf 24 = .ok (.aload_n 0, 1) := by decide +kernel
theorem dX0_weightOf_25 : decode cX0_weightOf 25 = .ok (.getfield 9, 3) := by decide +kernel
theorem dX0_weightOf_28 : decode cX0_weightOf 28 = .ok (.getfield 46, 3) := by decide +kernel
theorem dX0_weightOf_31 : decode cX0_weightOf 31 = .ok (.iload_n 1, 1) := by decide +kernel
theorem dX0_weightOf_32 : decode cX0_weightOf 32 = .ok (.iconst 1, 1) := by decide +kernel
theorem dX0_weightOf_33 : decode cX0_weightOf 33 = .ok (.iadd, 1) := by decide +kernel
theorem dX0_weightOf_34 : decode cX0_weightOf 34 = .ok (.iaload, 1) := by decide +kernel
theorem dX0_weightOf_35 : decode cX0_weightOf 35 = .ok (.istore 5, 2) := by decide +kernel
theorem dX0_weightOf_37 : decode cX0_weightOf 37 = .ok (.aload_n 0, 1) := by decide +kernel
theorem dX0_weightOf_38 : decode cX0_weightOf 38 = .ok (.getfield 25, 3) := by decide +kernel
theorem dX0_weightOf_41 : decode cX0_weightOf 41 = .ok (.iconst 0, 1) := by decide +kernel
theorem dX0_weightOf_42 : decode cX0_weightOf 42 = .ok (.invokestatic 35, 3) := by decide +kernel
theorem dX0_weightOf_45 : decode cX0_weightOf 45 = .ok (.aload_n 0, 1) := by decide +kernel
theorem dX0_weightOf_46 : decode cX0_weightOf 46 = .ok (.getfield 25, 3) := by decide +kernel
theorem dX0_weightOf_49 : decode cX0_weightOf 49 = .ok (.iconst 0, 1) := by decide +kernel
theorem dX0_weightOf_50 : decode cX0_weightOf 50 = .ok (.iload_n 2, 1) := by decide +kernel
theorem dX0_weightOf_51 : decode cX0_weightOf 51 = .ok (.iastore, 1) := by decide +kernel
theorem dX0_weightOf_52 : decode cX0_weightOf 52 = .ok (.aload_n 0, 1) := by decide +kernel
theorem dX0_weightOf_53 : decode cX0_weightOf 53 = .ok (.getfield 25, 3) := by decide +kernel
theorem dX0_weightOf_56 : decode cX0_weightOf 56 = .ok (.iconst 1, 1) := by decide +kernel
theorem dX0_weightOf_57 : decode cX0_weightOf 57 = .ok (.iload_n 3, 1) := by decide +kernel
theorem dX0_weightOf_58 : decode cX0_weightOf 58 = .ok (.iastore, 1) := by decide +kernel
theorem dX0_weightOf_59 : decode cX0_weightOf 59 = .ok (.aload_n 0, 1) := by decide +kernel
theorem dX0_weightOf_60 : decode cX0_weightOf 60 = .ok (.getfield 25, 3) := by decide +kernel
theorem dX0_weightOf_63 : decode cX0_weightOf 63 = .ok (.iconst 2, 1) := by decide +kernel
theorem dX0_weightOf_64 : decode cX0_weightOf 64 = .ok (.aload_n 0, 1) := by decide +kernel
theorem dX0_weightOf_65 : decode cX0_weightOf 65 = .ok (.getfield 9, 3) := by decide +kernel
theorem dX0_weightOf_68 : decode cX0_weightOf 68 = .ok (.iload 4, 2) := by decide +kernel
theorem dX0_weightOf_70 : decode cX0_weightOf 70 = .ok (.iload_n 2, 1) := by decide +kernel
theorem dX0_weightOf_71 : decode cX0_weightOf 71 = .ok (.invokevirtual 87, 3) := by decide +kernel
theorem dX0_weightOf_74 : decode cX0_weightOf 74 = .ok (.iastore, 1) := by decide +kernel
theorem dX0_weightOf_75 : decode cX0_weightOf 75 = .ok (.aload_n 0, 1) := by decide +kernel
theorem dX0_weightOf_76 : decode cX0_weightOf 76 = .ok (.getfield 25, 3) := by decide +kernel
theorem dX0_weightOf_79 : decode cX0_weightOf 79 = .ok (.iconst 3, 1) := by decide +kernel
theorem dX0_weightOf_80 : decode cX0_weightOf 80 = .ok (.aload_n 0, 1) := by decide +kernel
theorem dX0_weightOf_81 : decode cX0_weightOf 81 = .ok (.getfield 9, 3) := by decide +kernel
theorem dX0_weightOf_84 : decode cX0_weightOf 84 = .ok (.iload 5, 2) := by decide +kernel
theorem dX0_weightOf_86 : decode cX0_weightOf 86 = .ok (.iload_n 2, 1) := by decide +kernel
theorem dX0_weightOf_87 : decode cX0_weightOf 87 = .ok (.invokevirtual 90, 3) := by decide +kernel
theorem dX0_weightOf_90 : decode cX0_weightOf 90 = .ok (.iastore, 1) := by decide +kernel
theorem dX0_weightOf_91 : decode cX0_weightOf 91 = .ok (.aload_n 0, 1) := by decide +kernel
theorem dX0_weightOf_92 : decode cX0_weightOf 92 = .ok (.aload_n 0, 1) := by decide +kernel
theorem dX0_weightOf_93 : decode cX0_weightOf 93 = .ok (.getfield 9, 3) := by decide +kernel
theorem dX0_weightOf_96 : decode cX0_weightOf 96 = .ok (.getfield 110, 3) := by decide +kernel
theorem dX0_weightOf_99 : decode cX0_weightOf 99 = .ok (.iload 4, 2) := by decide +kernel
theorem dX0_weightOf_101 : decode cX0_weightOf 101 = .ok (.iaload, 1) := by decide +kernel
theorem dX0_weightOf_102 : decode cX0_weightOf 102 = .ok (.invokevirtual 113, 3) := by decide +kernel
theorem dX0_weightOf_105 : decode cX0_weightOf 105 = .ok (.aload_n 0, 1) := by decide +kernel
theorem dX0_weightOf_106 : decode cX0_weightOf 106 = .ok (.aload_n 0, 1) := by decide +kernel
theorem dX0_weightOf_107 : decode cX0_weightOf 107 = .ok (.getfield 9, 3) := by decide +kernel
theorem dX0_weightOf_110 : decode cX0_weightOf 110 = .ok (.getfield 110, 3) := by decide +kernel
theorem dX0_weightOf_113 : decode cX0_weightOf 113 = .ok (.iload 5, 2) := by decide +kernel
theorem dX0_weightOf_115 : decode cX0_weightOf 115 = .ok (.iaload, 1) := by decide +kernel
theorem dX0_weightOf_116 : decode cX0_weightOf 116 = .ok (.invokevirtual 113, 3) := by decide +kernel
theorem dX0_weightOf_119 : decode cX0_weightOf 119 = .ok (.aload_n 0, 1) := by decide +kernel
theorem dX0_weightOf_120 : decode cX0_weightOf 120 = .ok (.iconst 0, 1) := by decide +kernel
theorem dX0_weightOf_121 : decode cX0_weightOf 121 = .ok (.invokevirtual 117, 3) := by decide +kernel
theorem dX0_weightOf_124 : decode cX0_weightOf 124 = .ok (.ireturn, 1) := by decide +kernel
theorem dX0_noteSort_0 : decode cX0_noteSort 0 = .ok (.iload_n 1, 1) := by decide +kernel
theorem dX0_noteSort_1 : decode cX0_noteSort 1 = .ok (.ifCond .le 15, 3) := by decide +kernel
theorem dX0_noteSort_4 : decode cX0_noteSort 4 = .ok (.aload_n 0, 1) := by decide +kernel
theorem dX0_noteSort_5 : decode cX0_noteSort 5 = .ok (.getfield 25, 3) := by decide +kernel
theorem dX0_noteSort_8 : decode cX0_noteSort 8 = .ok (.bipush 6, 2) := by decide +kernel
theorem dX0_noteSort_10 : decode cX0_noteSort 10 = .ok (.iload_n 1, 1) := by decide +kernel
theorem dX0_noteSort_11 : decode cX0_noteSort 11 = .ok (.iadd, 1) := by decide +kernel
theorem dX0_noteSort_12 : decode cX0_noteSort 12 = .ok (.iconst 1, 1) := by decide +kernel
theorem dX0_noteSort_13 : decode cX0_noteSort 13 = .ok (.isub, 1) := by decide +kernel
theorem dX0_noteSort_14 : decode cX0_noteSort 14 = .ok (.iconst 1, 1) := by decide +kernel
theorem dX0_noteSort_15 : decode cX0_noteSort 15 = .ok (.iastore, 1) := by decide +kernel
theorem dX0_noteSort_16 : decode cX0_noteSort 16 = .ok (.return_, 1) := by decide +kernel
theorem dX0_fadingAt_0 : decode cX0_fadingAt 0 = .ok (.aload_n 0, 1) := by decide +kernel
theorem dX0_fadingAt_1 : decode cX0_fadingAt 1 = .ok (.getfield 25, 3) := by decide +kernel
theorem dX0_fadingAt_4 : decode cX0_fadingAt 4 = .ok (.iconst 0, 1) := by decide +kernel
theorem dX0_fadingAt_5 : decode cX0_fadingAt 5 = .ok (.invokestatic 35, 3) := by decide +kernel
theorem dX0_fadingAt_8 : decode cX0_fadingAt 8 = .ok (.aload_n 0, 1) := by decide +kernel
theorem dX0_fadingAt_9 : decode cX0_fadingAt 9 = .ok (.getfield 25, 3) := by decide +kernel
theorem dX0_fadingAt_12 : decode cX0_fadingAt 12 = .ok (.iconst 4, 1) := by decide +kernel
theorem dX0_fadingAt_13 : decode cX0_fadingAt 13 = .ok (.iload_n 2, 1) := by decide +kernel
theorem dX0_fadingAt_14 : decode cX0_fadingAt 14 = .ok (.iastore, 1) := by decide +kernel
theorem dX0_fadingAt_15 : decode cX0_fadingAt 15 = .ok (.aload_n 0, 1) := by decide +kernel
theorem dX0_fadingAt_16 : decode cX0_fadingAt 16 = .ok (.getfield 25, 3) := by decide +kernel
theorem dX0_fadingAt_19 : decode cX0_fadingAt 19 = .ok (.iconst 5, 1) := by decide +kernel
theorem dX0_fadingAt_20 : decode cX0_fadingAt 20 = .ok (.iload_n 1, 1) := by decide +kernel
theorem dX0_fadingAt_21 : decode cX0_fadingAt 21 = .ok (.iastore, 1) := by decide +kernel
theorem dX0_fadingAt_22 : decode cX0_fadingAt 22 = .ok (.aload_n 0, 1) := by decide +kernel
theorem dX0_fadingAt_23 : decode cX0_fadingAt 23 = .ok (.iconst 1, 1) := by decide +kernel
theorem dX0_fadingAt_24 : decode cX0_fadingAt 24 = .ok (.invokevirtual 117, 3) := by decide +kernel
theorem dX0_fadingAt_27 : decode cX0_fadingAt 27 = .ok (.ireturn, 1) := by decide +kernel
theorem dX0_sumOfLines_0 : decode cX0_sumOfLines 0 = .ok (.iconst 0, 1) := by decide +kernel
theorem dX0_sumOfLines_1 : decode cX0_sumOfLines 1 = .ok (.istore_n 2, 1) := by decide +kernel
theorem dX0_sumOfLines_2 : decode cX0_sumOfLines 2 = .ok (.iconst 0, 1) := by decide +kernel
theorem dX0_sumOfLines_3 : decode cX0_sumOfLines 3 = .ok (.istore_n 3, 1) := by decide +kernel
theorem dX0_sumOfLines_4 : decode cX0_sumOfLines 4 = .ok (.iload_n 3, 1) := by decide +kernel
theorem dX0_sumOfLines_5 : decode cX0_sumOfLines 5 = .ok (.aload_n 0, 1) := by decide +kernel
theorem dX0_sumOfLines_6 : decode cX0_sumOfLines 6 = .ok (.getfield 15, 3) := by decide +kernel
theorem dX0_sumOfLines_9 : decode cX0_sumOfLines 9 = .ok (.getfield 107, 3) := by decide +kernel
theorem dX0_sumOfLines_12 : decode cX0_sumOfLines 12 = .ok (.if_icmp .ge 58, 3) := by decide +kernel
theorem dX0_sumOfLines_15 : decode cX0_sumOfLines 15 = .ok (.aload_n 0, 1) := by decide +kernel
theorem dX0_sumOfLines_16 : decode cX0_sumOfLines 16 = .ok (.getfield 15, 3) := by decide +kernel
theorem dX0_sumOfLines_19 : decode cX0_sumOfLines 19 = .ok (.getfield 120, 3) := by decide +kernel
theorem dX0_sumOfLines_22 : decode cX0_sumOfLines 22 = .ok (.iload_n 3, 1) := by decide +kernel
theorem dX0_sumOfLines_23 : decode cX0_sumOfLines 23 = .ok (.iaload, 1) := by decide +kernel
theorem dX0_sumOfLines_24 : decode cX0_sumOfLines 24 = .ok (.iload_n 1, 1) := by decide +kernel
theorem dX0_sumOfLines_25 : decode cX0_sumOfLines 25 = .ok (.if_icmp .ne 39, 3) := by decide +kernel
theorem dX0_sumOfLines_28 : decode cX0_sumOfLines 28 = .ok (.aload_n 0, 1) := by decide +kernel
theorem dX0_sumOfLines_29 : decode cX0_sumOfLines 29 = .ok (.aload_n 0, 1) := by decide +kernel
theorem dX0_sumOfLines_30 : decode cX0_sumOfLines 30 = .ok (.getfield 15, 3) := by decide +kernel
theorem dX0_sumOfLines_33 : decode cX0_sumOfLines 33 = .ok (.iload_n 3, 1) := by decide +kernel
theorem dX0_sumOfLines_34 : decode cX0_sumOfLines 34 = .ok (.invokevirtual 123, 3) := by decide +kernel
theorem dX0_sumOfLines_37 : decode cX0_sumOfLines 37 = .ok (.aload_n 0, 1) := by decide +kernel
theorem dX0_sumOfLines_38 : decode cX0_sumOfLines 38 = .ok (.getfield 15, 3) := by decide +kernel
theorem dX0_sumOfLines_41 : decode cX0_sumOfLines 41 = .ok (.getfield 126, 3) := by decide +kernel
theorem dX0_sumOfLines_44 : decode cX0_sumOfLines 44 = .ok (.iload_n 3, 1) := by decide +kernel
theorem dX0_sumOfLines_45 : decode cX0_sumOfLines 45 = .ok (.iaload, 1) := by decide +kernel
theorem dX0_sumOfLines_46 : decode cX0_sumOfLines 46 = .ok (.invokevirtual 129, 3) := by decide +kernel
theorem dX0_sumOfLines_49 : decode cX0_sumOfLines 49 = .ok (.ifCond .eq 15, 3) := by decide +kernel
theorem dX0_sumOfLines_52 : decode cX0_sumOfLines 52 = .ok (.iload_n 2, 1) := by decide +kernel
theorem dX0_sumOfLines_53 : decode cX0_sumOfLines 53 = .ok (.aload_n 0, 1) := by decide +kernel
theorem dX0_sumOfLines_54 : decode cX0_sumOfLines 54 = .ok (.getfield 15, 3) := by decide +kernel
theorem dX0_sumOfLines_57 : decode cX0_sumOfLines 57 = .ok (.getfield 133, 3) := by decide +kernel
theorem dX0_sumOfLines_60 : decode cX0_sumOfLines 60 = .ok (.iload_n 3, 1) := by decide +kernel
theorem dX0_sumOfLines_61 : decode cX0_sumOfLines 61 = .ok (.iaload, 1) := by decide +kernel
theorem dX0_sumOfLines_62 : decode cX0_sumOfLines 62 = .ok (.iadd, 1) := by decide +kernel
theorem dX0_sumOfLines_63 : decode cX0_sumOfLines 63 = .ok (.istore_n 2, 1) := by decide +kernel
theorem dX0_sumOfLines_64 : decode cX0_sumOfLines 64 = .ok (.iinc 3 1, 3) := by decide +kernel
theorem dX0_sumOfLines_67 : decode cX0_sumOfLines 67 = .ok (.goto (-63), 3) := by decide +kernel
theorem dX0_sumOfLines_70 : decode cX0_sumOfLines 70 = .ok (.iload_n 2, 1) := by decide +kernel
theorem dX0_sumOfLines_71 : decode cX0_sumOfLines 71 = .ok (.ireturn, 1) := by decide +kernel
theorem dX0_holds_0 : decode cX0_holds 0 = .ok (.iconst 0, 1) := by decide +kernel
theorem dX0_holds_1 : decode cX0_holds 1 = .ok (.istore_n 3, 1) := by decide +kernel
theorem dX0_holds_2 : decode cX0_holds 2 = .ok (.iload_n 1, 1) := by decide +kernel
theorem dX0_holds_3 : decode cX0_holds 3 = .ok (.istore 4, 2) := by decide +kernel
theorem dX0_holds_5 : decode cX0_holds 5 = .ok (.iload 4, 2) := by decide +kernel
theorem dX0_holds_7 : decode cX0_holds 7 = .ok (.iload_n 2, 1) := by decide +kernel
theorem dX0_holds_8 : decode cX0_holds 8 = .ok (.if_icmp .ge 121, 3) := by decide +kernel
theorem dX0_holds_11 : decode cX0_holds 11 = .ok (.aload_n 0, 1) := by decide +kernel
theorem dX0_holds_12 : decode cX0_holds 12 = .ok (.getfield 15, 3) := by decide +kernel
theorem dX0_holds_15 : decode cX0_holds 15 = .ok (.getfield 136, 3) := by decide +kernel
theorem dX0_holds_18 : decode cX0_holds 18 = .ok (.iload 4, 2) := by decide +kernel
theorem dX0_holds_20 : decode cX0_holds 20 = .ok (.iaload, 1) := by decide +kernel
theorem dX0_holds_21 : decode cX0_holds 21 = .ok (.istore 5, 2) := by decide +kernel
theorem dX0_holds_23 : decode cX0_holds 23 = .ok (.iload 5, 2) := by decide +kernel
theorem dX0_holds_25 : decode cX0_holds 25 = .ok (.sipush 1009, 3) := by decide +kernel
theorem dX0_holds_28 : decode cX0_holds 28 = .ok (.if_icmp .ge 45, 3) := by decide +kernel
theorem dX0_holds_31 : decode cX0_holds 31 = .ok (.iload_n 3, 1) := by decide +kernel
theorem dX0_holds_32 : decode cX0_holds 32 = .ok (.bipush 40, 2) := by decide +kernel
theorem dX0_holds_34 : decode cX0_holds 34 = .ok (.if_icmp .ge 89, 3) := by decide +kernel
theorem dX0_holds_37 : decode cX0_holds 37 = .ok (.aload_n 0, 1) := by decide +kernel
theorem dX0_holds_38 : decode cX0_holds 38 = .ok (.getfield 29, 3) := by decide +kernel
theorem dX0_holds_41 : decode cX0_holds 41 = .ok (.iload_n 3, 1) := by decide +kernel
theorem dX0_holds_42 : decode cX0_holds 42 = .ok (.iload 5, 2) := by decide +kernel
theorem dX0_holds_44 : decode cX0_holds 44 = .ok (.sipush 1000, 3) := by decide +kernel
theorem dX0_holds_47 : decode cX0_holds 47 = .ok (.if_icmp .ge 8, 3) := by decide +kernel
theorem dX0_holds_50 : decode cX0_holds 50 = .ok (.iload 5, 2) := by decide +kernel
theorem dX0_holds_52 : decode cX0_holds 52 = .ok (.goto 14, 3) := by decide +kernel
theorem dX0_holds_55 : decode cX0_holds 55 = .ok (.aload_n 0, 1) := by decide +kernel
theorem dX0_holds_56 : decode cX0_holds 56 = .ok (.getfield 25, 3) := by decide +kernel
theorem dX0_holds_59 : decode cX0_holds 59 = .ok (.iload 5, 2) := by decide +kernel
theorem dX0_holds_61 : decode cX0_holds 61 = .ok (.sipush 1000, 3) := by decide +kernel
theorem dX0_holds_64 : decode cX0_holds 64 = .ok (.isub, 1) := by decide +kernel
theorem dX0_holds_65 : decode cX0_holds 65 = .ok (.iaload, 1) := by decide +kernel
theorem dX0_holds_66 : decode cX0_holds 66 = .ok (.iastore, 1) := by decide +kernel
theorem dX0_holds_67 : decode cX0_holds 67 = .ok (.iinc 3 1, 3) := by decide +kernel
theorem dX0_holds_70 : decode cX0_holds 70 = .ok (.goto 53, 3) := by decide +kernel
theorem dX0_holds_73 : decode cX0_holds 73 = .ok (.iload 5, 2) := by decide +kernel
theorem dX0_holds_75 : decode cX0_holds 75 = .ok (.sipush 1014, 3) := by decide +kernel
theorem dX0_holds_78 : decode cX0_holds 78 = .ok (.if_icmp .ne 28, 3) := by decide +kernel
theorem dX0_holds_81 : decode cX0_holds 81 = .ok (.iload_n 3, 1) := by decide +kernel
theorem dX0_holds_82 : decode cX0_holds 82 = .ok (.ifCond .le 41, 3) := by decide +kernel
theorem dX0_holds_85 : decode cX0_holds 85 = .ok (.aload_n 0, 1) := by decide +kernel
theorem dX0_holds_86 : decode cX0_holds 86 = .ok (.getfield 29, 3) := by decide +kernel
theorem dX0_holds_89 : decode cX0_holds 89 = .ok (.iload_n 3, 1) := by decide +kernel
theorem dX0_holds_90 : decode cX0_holds 90 = .ok (.iconst 1, 1) := by decide +kernel
theorem dX0_holds_91 : decode cX0_holds 91 = .ok (.isub, 1) := by decide +kernel
theorem dX0_holds_92 : decode cX0_holds 92 = .ok (.iconst 1, 1) := by decide +kernel
theorem dX0_holds_93 : decode cX0_holds 93 = .ok (.aload_n 0, 1) := by decide +kernel
theorem dX0_holds_94 : decode cX0_holds 94 = .ok (.getfield 29, 3) := by decide +kernel
theorem dX0_holds_97 : decode cX0_holds 97 = .ok (.iload_n 3, 1) := by decide +kernel
theorem dX0_holds_98 : decode cX0_holds 98 = .ok (.iconst 1, 1) := by decide +kernel
theorem dX0_holds_99 : decode cX0_holds 99 = .ok (.isub, 1) := by decide +kernel
theorem dX0_holds_100 : decode cX0_holds 100 = .ok (.iaload, 1) := by decide +kernel
theorem dX0_holds_101 : decode cX0_holds 101 = .ok (.isub, 1) := by decide +kernel
theorem dX0_holds_102 : decode cX0_holds 102 = .ok (.iastore, 1) := by decide +kernel
theorem dX0_holds_103 : decode cX0_holds 103 = .ok (.goto 20, 3) := by decide +kernel
theorem dX0_holds_106 : decode cX0_holds 106 = .ok (.iload_n 3, 1) := by decide +kernel
theorem dX0_holds_107 : decode cX0_holds 107 = .ok (.iconst 1, 1) := by decide +kernel
theorem dX0_holds_108 : decode cX0_holds 108 = .ok (.if_icmp .le 15, 3) := by decide +kernel
theorem dX0_holds_111 : decode cX0_holds 111 = .ok (.iinc 3 (-1), 3) := by decide +kernel
theorem dX0_holds_114 : decode cX0_holds 114 = .ok (.aload_n 0, 1) := by decide +kernel
theorem dX0_holds_115 : decode cX0_holds 115 = .ok (.iload 5, 2) := by decide +kernel
theorem dX0_holds_117 : decode cX0_holds 117 = .ok (.iload_n 3, 1) := by decide +kernel
theorem dX0_holds_118 : decode cX0_holds 118 = .ok (.iconst 1, 1) := by decide +kernel
theorem dX0_holds_119 : decode cX0_holds 119 = .ok (.isub, 1) := by decide +kernel
theorem dX0_holds_120 : decode cX0_holds 120 = .ok (.invokevirtual 139, 3) := by decide +kernel
theorem dX0_holds_123 : decode cX0_holds 123 = .ok (.iinc 4 1, 3) := by decide +kernel
theorem dX0_holds_126 : decode cX0_holds 126 = .ok (.goto (-121), 3) := by decide +kernel
theorem dX0_holds_129 : decode cX0_holds 129 = .ok (.iload_n 1, 1) := by decide +kernel
theorem dX0_holds_130 : decode cX0_holds 130 = .ok (.iload_n 2, 1) := by decide +kernel
theorem dX0_holds_131 : decode cX0_holds 131 = .ok (.if_icmp .ge 12, 3) := by decide +kernel
theorem dX0_holds_134 : decode cX0_holds 134 = .ok (.aload_n 0, 1) := by decide +kernel
theorem dX0_holds_135 : decode cX0_holds 135 = .ok (.getfield 29, 3) := by decide +kernel
theorem dX0_holds_138 : decode cX0_holds 138 = .ok (.iconst 0, 1) := by decide +kernel
theorem dX0_holds_139 : decode cX0_holds 139 = .ok (.iaload, 1) := by decide +kernel
theorem dX0_holds_140 : decode cX0_holds 140 = .ok (.ifCond .eq 7, 3) := by decide +kernel
theorem dX0_holds_143 : decode cX0_holds 143 = .ok (.iconst 1, 1) := by decide +kernel
theorem dX0_holds_144 : decode cX0_holds 144 = .ok (.goto 4, 3) := by decide +kernel
theorem dX0_holds_147 : decode cX0_holds 147 = .ok (.iconst 0, 1) := by decide +kernel
theorem dX0_holds_148 : decode cX0_holds 148 = .ok (.ireturn, 1) := by decide +kernel
theorem dX0_joinOnStack_0 : decode cX0_joinOnStack 0 = .ok (.aload_n 0, 1) := by decide +kernel
theorem dX0_joinOnStack_1 : decode cX0_joinOnStack 1 = .ok (.getfield 29, 3) := by decide +kernel
theorem dX0_joinOnStack_4 : decode cX0_joinOnStack 4 = .ok (.iload_n 2, 1) := by decide +kernel
theorem dX0_joinOnStack_5 : decode cX0_joinOnStack 5 = .ok (.iaload, 1) := by decide +kernel
theorem dX0_joinOnStack_6 : decode cX0_joinOnStack 6 = .ok (.istore_n 3, 1) := by decide +kernel
theorem dX0_joinOnStack_7 : decode cX0_joinOnStack 7 = .ok (.aload_n 0, 1) := by decide +kernel
theorem dX0_joinOnStack_8 : decode cX0_joinOnStack 8 = .ok (.getfield 29, 3) := by decide +kernel
theorem dX0_joinOnStack_11 : decode cX0_joinOnStack 11 = .ok (.iload_n 2, 1) := by decide +kernel
theorem dX0_joinOnStack_12 : decode cX0_joinOnStack 12 = .ok (.iconst 1, 1) := by decide +kernel
theorem dX0_joinOnStack_13 : decode cX0_joinOnStack 13 = .ok (.iadd, 1) := by decide +kernel
theorem dX0_joinOnStack_14 : decode cX0_joinOnStack 14 = .ok (.iaload, 1) := by decide +kernel
theorem dX0_joinOnStack_15 : decode cX0_joinOnStack 15 = .ok (.istore 4, 2) := by decide +kernel
theorem dX0_joinOnStack_17 : decode cX0_joinOnStack 17 = .ok (.iload_n 1, 1) := by decide +kernel
theorem dX0_joinOnStack_18 : decode cX0_joinOnStack 18 = .ok (.tableswitch 96 1009 1012 #[30, 43, 63, 83], 30) := by decide +kernel
theorem dX0_joinOnStack_48 : decode cX0_joinOnStack 48 = .ok (.aload_n 0, 1) := by decide +kernel
theorem dX0_joinOnStack_49 : decode cX0_joinOnStack 49 = .ok (.getfield 29, 3) := by decide +kernel
theorem dX0_joinOnStack_52 : decode cX0_joinOnStack 52 = .ok (.iload_n 2, 1) := by decide +kernel
theorem dX0_joinOnStack_53 : decode cX0_joinOnStack 53 = .ok (.iload_n 3, 1) := by decide +kernel
theorem dX0_joinOnStack_54 : decode cX0_joinOnStack 54 = .ok (.iload 4, 2) := by decide +kernel
theorem dX0_joinOnStack_56 : decode cX0_joinOnStack 56 = .ok (.iadd, 1) := by decide +kernel
theorem dX0_joinOnStack_57 : decode cX0_joinOnStack 57 = .ok (.iastore, 1) := by decide +kernel
theorem dX0_joinOnStack_58 : decode cX0_joinOnStack 58 = .ok (.goto 66, 3) := by decide +kernel
theorem dX0_joinOnStack_61 : decode cX0_joinOnStack 61 = .ok (.aload_n 0, 1) := by decide +kernel
theorem dX0_joinOnStack_62 : decode cX0_joinOnStack 62 = .ok (.getfield 29, 3) := by decide +kernel
theorem dX0_joinOnStack_65 : decode cX0_joinOnStack 65 = .ok (.iload_n 2, 1) := by decide +kernel
theorem dX0_joinOnStack_66 : decode cX0_joinOnStack 66 = .ok (.iload_n 3, 1) := by decide +kernel
theorem dX0_joinOnStack_67 : decode cX0_joinOnStack 67 = .ok (.iload 4, 2) := by decide +kernel
theorem dX0_joinOnStack_69 : decode cX0_joinOnStack 69 = .ok (.if_icmp .ge 7, 3) := by decide +kernel
theorem dX0_joinOnStack_72 : decode cX0_joinOnStack 72 = .ok (.iconst 1, 1) := by decide +kernel
theorem dX0_joinOnStack_73 : decode cX0_joinOnStack 73 = .ok (.goto 4, 3) := by decide +kernel
theorem dX0_joinOnStack_76 : decode cX0_joinOnStack 76 = .ok (.iconst 0, 1) := by decide +kernel
theorem dX0_joinOnStack_77 : decode cX0_joinOnStack 77 = .ok (.iastore, 1) := by decide +kernel
theorem dX0_joinOnStack_78 : decode cX0_joinOnStack 78 = .ok (.goto 46, 3) := by decide +kernel
theorem dX0_joinOnStack_81 : decode cX0_joinOnStack 81 = .ok (.aload_n 0, 1) := by decide +kernel
theorem dX0_joinOnStack_82 : decode cX0_joinOnStack 82 = .ok (.getfield 29, 3) := by decide +kernel
theorem dX0_joinOnStack_85 : decode cX0_joinOnStack 85 = .ok (.iload_n 2, 1) := by decide +kernel
theorem dX0_joinOnStack_86 : decode cX0_joinOnStack 86 = .ok (.iload_n 3, 1) := by decide +kernel
theorem dX0_joinOnStack_87 : decode cX0_joinOnStack 87 = .ok (.iload 4, 2) := by decide +kernel
theorem dX0_joinOnStack_89 : decode cX0_joinOnStack 89 = .ok (.if_icmp .le 7, 3) := by decide +kernel
theorem dX0_joinOnStack_92 : decode cX0_joinOnStack 92 = .ok (.iconst 1, 1) := by decide +kernel
theorem dX0_joinOnStack_93 : decode cX0_joinOnStack 93 = .ok (.goto 4, 3) := by decide +kernel
theorem dX0_joinOnStack_96 : decode cX0_joinOnStack 96 = .ok (.iconst 0, 1) := by decide +kernel
theorem dX0_joinOnStack_97 : decode cX0_joinOnStack 97 = .ok (.iastore, 1) := by decide +kernel
theorem dX0_joinOnStack_98 : decode cX0_joinOnStack 98 = .ok (.goto 26, 3) := by decide +kernel
theorem dX0_joinOnStack_101 : decode cX0_joinOnStack 101 = .ok (.aload_n 0, 1) := by decide +kernel
theorem dX0_joinOnStack_102 : decode cX0_joinOnStack 102 = .ok (.getfield 29, 3) := by decide +kernel
theorem dX0_joinOnStack_105 : decode cX0_joinOnStack 105 = .ok (.iload_n 2, 1) := by decide +kernel
theorem dX0_joinOnStack_106 : decode cX0_joinOnStack 106 = .ok (.iload_n 3, 1) := by decide +kernel
theorem dX0_joinOnStack_107 : decode cX0_joinOnStack 107 = .ok (.iload 4, 2) := by decide +kernel
theorem dX0_joinOnStack_109 : decode cX0_joinOnStack 109 = .ok (.iand, 1) := by decide +kernel
theorem dX0_joinOnStack_110 : decode cX0_joinOnStack 110 = .ok (.iastore, 1) := by decide +kernel
theorem dX0_joinOnStack_111 : decode cX0_joinOnStack 111 = .ok (.goto 13, 3) := by decide +kernel
theorem dX0_joinOnStack_114 : decode cX0_joinOnStack 114 = .ok (.aload_n 0, 1) := by decide +kernel
theorem dX0_joinOnStack_115 : decode cX0_joinOnStack 115 = .ok (.getfield 29, 3) := by decide +kernel
theorem dX0_joinOnStack_118 : decode cX0_joinOnStack 118 = .ok (.iload_n 2, 1) := by decide +kernel
theorem dX0_joinOnStack_119 : decode cX0_joinOnStack 119 = .ok (.iload_n 3, 1) := by decide +kernel
theorem dX0_joinOnStack_120 : decode cX0_joinOnStack 120 = .ok (.iload 4, 2) := by decide +kernel
theorem dX0_joinOnStack_122 : decode cX0_joinOnStack 122 = .ok (.ior, 1) := by decide +kernel
theorem dX0_joinOnStack_123 : decode cX0_joinOnStack 123 = .ok (.iastore, 1) := by decide +kernel
theorem dX0_joinOnStack_124 : decode cX0_joinOnStack 124 = .ok (.return_, 1) := by decide +kernel
theorem dX0_unevenBy_0 : decode cX0_unevenBy 0 = .ok (.iconst 0, 1) := by decide +kernel
theorem dX0_unevenBy_1 : decode cX0_unevenBy 1 = .ok (.istore_n 3, 1) := by decide +kernel
theorem dX0_unevenBy_2 : decode cX0_unevenBy 2 = .ok (.iconst 0, 1) := by decide +kernel
theorem dX0_unevenBy_3 : decode cX0_unevenBy 3 = .ok (.istore 4, 2) := by decide +kernel
theorem dX0_unevenBy_5 : decode cX0_unevenBy 5 = .ok (.iconst 0, 1) := by decide +kernel
theorem dX0_unevenBy_6 : decode cX0_unevenBy 6 = .ok (.istore 5, 2) := by decide +kernel
theorem dX0_unevenBy_8 : decode cX0_unevenBy 8 = .ok (.iload 5, 2) := by decide +kernel
theorem dX0_unevenBy_10 : decode cX0_unevenBy 10 = .ok (.aload_n 0, 1) := by decide +kernel
theorem dX0_unevenBy_11 : decode cX0_unevenBy 11 = .ok (.getfield 9, 3) := by decide +kernel
theorem dX0_unevenBy_14 : decode cX0_unevenBy 14 = .ok (.invokevirtual 143, 3) := by decide +kernel
theorem dX0_unevenBy_17 : decode cX0_unevenBy 17 = .ok (.if_icmp .ge 76, 3) := by decide +kernel
theorem dX0_unevenBy_20 : decode cX0_unevenBy 20 = .ok (.aload_n 1, 1) := by decide +kernel
theorem dX0_unevenBy_21 : decode cX0_unevenBy 21 = .ok (.iload 5, 2) := by decide +kernel
theorem dX0_unevenBy_23 : decode cX0_unevenBy 23 = .ok (.iaload, 1) := by decide +kernel
theorem dX0_unevenBy_24 : decode cX0_unevenBy 24 = .ok (.iconst 0, 1) := by decide +kernel
theorem dX0_unevenBy_25 : decode cX0_unevenBy 25 = .ok (.bipush 100, 2) := by decide +kernel
theorem dX0_unevenBy_27 : decode cX0_unevenBy 27 = .ok (.iload_n 2, 1) := by decide +kernel
theorem dX0_unevenBy_28 : decode cX0_unevenBy 28 = .ok (.iload 5, 2) := by decide +kernel
theorem dX0_unevenBy_30 : decode cX0_unevenBy 30 = .ok (.imul, 1) := by decide +kernel
theorem dX0_unevenBy_31 : decode cX0_unevenBy 31 = .ok (.isub, 1) := by decide +kernel
theorem dX0_unevenBy_32 : decode cX0_unevenBy 32 = .ok (.invokestatic 81, 3) := by decide +kernel
theorem dX0_unevenBy_35 : decode cX0_unevenBy 35 = .ok (.imul, 1) := by decide +kernel
theorem dX0_unevenBy_36 : decode cX0_unevenBy 36 = .ok (.bipush 100, 2) := by decide +kernel
theorem dX0_unevenBy_38 : decode cX0_unevenBy 38 = .ok (.idiv, 1) := by decide +kernel
theorem dX0_unevenBy_39 : decode cX0_unevenBy 39 = .ok (.istore 6, 2) := by decide +kernel
theorem dX0_unevenBy_41 : decode cX0_unevenBy 41 = .ok (.aload_n 0, 1) := by decide +kernel
theorem dX0_unevenBy_42 : decode cX0_unevenBy 42 = .ok (.iload 5, 2) := by decide +kernel
theorem dX0_unevenBy_44 : decode cX0_unevenBy 44 = .ok (.iload 6, 2) := by decide +kernel
theorem dX0_unevenBy_46 : decode cX0_unevenBy 46 = .ok (.invokevirtual 146, 3) := by decide +kernel
theorem dX0_unevenBy_49 : decode cX0_unevenBy 49 = .ok (.istore 7, 2) := by decide +kernel
theorem dX0_unevenBy_51 : decode cX0_unevenBy 51 = .ok (.iload 5, 2) := by decide +kernel
theorem dX0_unevenBy_53 : decode cX0_unevenBy 53 = .ok (.ifCond .ne 8, 3) := by decide +kernel
theorem dX0_unevenBy_56 : decode cX0_unevenBy 56 = .ok (.iload 7, 2) := by decide +kernel
theorem dX0_unevenBy_58 : decode cX0_unevenBy 58 = .ok (.goto 9, 3) := by decide +kernel
theorem dX0_unevenBy_61 : decode cX0_unevenBy 61 = .ok (.iload_n 3, 1) := by decide +kernel
theorem dX0_unevenBy_62 : decode cX0_unevenBy 62 = .ok (.iload 7, 2) := by decide +kernel
theorem dX0_unevenBy_64 : decode cX0_unevenBy 64 = .ok (.invokestatic 96, 3) := by decide +kernel
theorem dX0_unevenBy_67 : decode cX0_unevenBy 67 = .ok (.istore_n 3, 1) := by decide +kernel
theorem dX0_unevenBy_68 : decode cX0_unevenBy 68 = .ok (.iload 5, 2) := by decide +kernel
theorem dX0_unevenBy_70 : decode cX0_unevenBy 70 = .ok (.ifCond .ne 8, 3) := by decide +kernel
theorem dX0_unevenBy_73 : decode cX0_unevenBy 73 = .ok (.iload 7, 2) := by decide +kernel
theorem dX0_unevenBy_75 : decode cX0_unevenBy 75 = .ok (.goto 10, 3) := by decide +kernel
theorem dX0_unevenBy_78 : decode cX0_unevenBy 78 = .ok (.iload 4, 2) := by decide +kernel
theorem dX0_unevenBy_80 : decode cX0_unevenBy 80 = .ok (.iload 7, 2) := by decide +kernel
theorem dX0_unevenBy_82 : decode cX0_unevenBy 82 = .ok (.invokestatic 81, 3) := by decide +kernel
theorem dX0_unevenBy_85 : decode cX0_unevenBy 85 = .ok (.istore 4, 2) := by decide +kernel
theorem dX0_unevenBy_87 : decode cX0_unevenBy 87 = .ok (.iinc 5 1, 3) := by decide +kernel
theorem dX0_unevenBy_90 : decode cX0_unevenBy 90 = .ok (.goto (-82), 3) := by decide +kernel
theorem dX0_unevenBy_93 : decode cX0_unevenBy 93 = .ok (.iload 4, 2) := by decide +kernel
theorem dX0_unevenBy_95 : decode cX0_unevenBy 95 = .ok (.iload_n 3, 1) := by decide +kernel
theorem dX0_unevenBy_96 : decode cX0_unevenBy 96 = .ok (.isub, 1) := by decide +kernel
theorem dX0_unevenBy_97 : decode cX0_unevenBy 97 = .ok (.ireturn, 1) := by decide +kernel
theorem dX0_lackingBy_0 : decode cX0_lackingBy 0 = .ok (.iconst 2, 1) := by decide +kernel
theorem dX0_lackingBy_1 : decode cX0_lackingBy 1 = .ok (.aload_n 0, 1) := by decide +kernel
theorem dX0_lackingBy_2 : decode cX0_lackingBy 2 = .ok (.getfield 9, 3) := by decide +kernel
theorem dX0_lackingBy_5 : decode cX0_lackingBy 5 = .ok (.getfield 54, 3) := by decide +kernel
theorem dX0_lackingBy_8 : decode cX0_lackingBy 8 = .ok (.imul, 1) := by decide +kernel
theorem dX0_lackingBy_9 : decode cX0_lackingBy 9 = .ok (.aload_n 0, 1) := by decide +kernel
theorem dX0_lackingBy_10 : decode cX0_lackingBy 10 = .ok (.getfield 19, 3) := by decide +kernel
theorem dX0_lackingBy_13 : decode cX0_lackingBy 13 = .ok (.getfield 78, 3) := by decide +kernel
theorem dX0_lackingBy_16 : decode cX0_lackingBy 16 = .ok (.iadd, 1) := by decide +kernel
theorem dX0_lackingBy_17 : decode cX0_lackingBy 17 = .ok (.aload_n 0, 1) := by decide +kernel
theorem dX0_lackingBy_18 : decode cX0_lackingBy 18 = .ok (.getfield 9, 3) := by decide +kernel
theorem dX0_lackingBy_21 : decode cX0_lackingBy 21 = .ok (.getfield 75, 3) := by decide +kernel
theorem dX0_lackingBy_24 : decode cX0_lackingBy 24 = .ok (.isub, 1) := by decide +kernel
theorem dX0_lackingBy_25 : decode cX0_lackingBy 25 = .ok (.istore_n 3, 1) := by decide +kernel
theorem dX0_lackingBy_26 : decode cX0_lackingBy 26 = .ok (.iconst 0, 1) := by decide +kernel
theorem dX0_lackingBy_27 : decode cX0_lackingBy 27 = .ok (.istore 4, 2) := by decide +kernel
theorem dX0_lackingBy_29 : decode cX0_lackingBy 29 = .ok (.iload 4, 2) := by decide +kernel
theorem dX0_lackingBy_31 : decode cX0_lackingBy 31 = .ok (.iload_n 2, 1) := by decide +kernel
theorem dX0_lackingBy_32 : decode cX0_lackingBy 32 = .ok (.if_icmp .ge 35, 3) := by decide +kernel
theorem dX0_lackingBy_35 : decode cX0_lackingBy 35 = .ok (.iload_n 3, 1) := by decide +kernel
theorem dX0_lackingBy_36 : decode cX0_lackingBy 36 = .ok (.aload_n 0, 1) := by decide +kernel
theorem dX0_lackingBy_37 : decode cX0_lackingBy 37 = .ok (.iload 4, 2) := by decide +kernel
theorem dX0_lackingBy_39 : decode cX0_lackingBy 39 = .ok (.invokevirtual 58, 3) := by decide +kernel
theorem dX0_lackingBy_42 : decode cX0_lackingBy 42 = .ok (.iadd, 1) := by decide +kernel
theorem dX0_lackingBy_43 : decode cX0_lackingBy 43 = .ok (.istore_n 3, 1) := by decide +kernel
theorem dX0_lackingBy_44 : decode cX0_lackingBy 44 = .ok (.iload 4, 2) := by decide +kernel
theorem dX0_lackingBy_46 : decode cX0_lackingBy 46 = .ok (.ifCond .le 15, 3) := by decide +kernel
theorem dX0_lackingBy_49 : decode cX0_lackingBy 49 = .ok (.iload_n 3, 1) := by decide +kernel
theorem dX0_lackingBy_50 : decode cX0_lackingBy 50 = .ok (.aload_n 0, 1) := by decide +kernel
theorem dX0_lackingBy_51 : decode cX0_lackingBy 51 = .ok (.iload 4, 2) := by decide +kernel
theorem dX0_lackingBy_53 : decode cX0_lackingBy 53 = .ok (.iconst 1, 1) := by decide +kernel
theorem dX0_lackingBy_54 : decode cX0_lackingBy 54 = .ok (.isub, 1) := by decide +kernel
theorem dX0_lackingBy_55 : decode cX0_lackingBy 55 = .ok (.iload_n 1, 1) := by decide +kernel
theorem dX0_lackingBy_56 : decode cX0_lackingBy 56 = .ok (.invokevirtual 149, 3) := by decide +kernel
theorem dX0_lackingBy_59 : decode cX0_lackingBy 59 = .ok (.iadd, 1) := by decide +kernel
theorem dX0_lackingBy_60 : decode cX0_lackingBy 60 = .ok (.istore_n 3, 1) := by decide +kernel
theorem dX0_lackingBy_61 : decode cX0_lackingBy 61 = .ok (.iinc 4 1, 3) := by decide +kernel
theorem dX0_lackingBy_64 : decode cX0_lackingBy 64 = .ok (.goto (-35), 3) := by decide +kernel
theorem dX0_lackingBy_67 : decode cX0_lackingBy 67 = .ok (.iload_n 3, 1) := by decide +kernel
theorem dX0_lackingBy_68 : decode cX0_lackingBy 68 = .ok (.ireturn, 1) := by decide +kernel
theorem dX0_distanceFor_0 : decode cX0_distanceFor 0 = .ok (.iconst 0, 1) := by decide +kernel
theorem dX0_distanceFor_1 : decode cX0_distanceFor 1 = .ok (.istore_n 3, 1) := by decide +kernel
theorem dX0_distanceFor_2 : decode cX0_distanceFor 2 = .ok (.iload_n 3, 1) := by decide +kernel
theorem dX0_distanceFor_3 : decode cX0_distanceFor 3 = .ok (.bipush 30, 2) := by decide +kernel
theorem dX0_distanceFor_5 : decode cX0_distanceFor 5 = .ok (.if_icmp .ge 19, 3) := by decide +kernel
theorem dX0_distanceFor_8 : decode cX0_distanceFor 8 = .ok (.aload_n 0, 1) := by decide +kernel
theorem dX0_distanceFor_9 : decode cX0_distanceFor 9 = .ok (.iload_n 1, 1) := by decide +kernel
theorem dX0_distanceFor_10 : decode cX0_distanceFor 10 = .ok (.iload_n 3, 1) := by decide +kernel
theorem dX0_distanceFor_11 : decode cX0_distanceFor 11 = .ok (.invokevirtual 146, 3) := by decide +kernel
theorem dX0_distanceFor_14 : decode cX0_distanceFor 14 = .ok (.iload_n 2, 1) := by decide +kernel
theorem dX0_distanceFor_15 : decode cX0_distanceFor 15 = .ok (.if_icmp .ge 9, 3) := by decide +kernel
theorem dX0_distanceFor_18 : decode cX0_distanceFor 18 = .ok (.iinc 3 1, 3) := by decide +kernel
theorem dX0_distanceFor_21 : decode cX0_distanceFor 21 = .ok (.goto (-19), 3) := by decide +kernel
theorem dX0_distanceFor_24 : decode cX0_distanceFor 24 = .ok (.iload_n 3, 1) := by decide +kernel
theorem dX0_distanceFor_25 : decode cX0_distanceFor 25 = .ok (.ireturn, 1) := by decide +kernel
theorem dX0_middleHair_0 : decode cX0_middleHair 0 = .ok (.aload_n 0, 1) := by decide +kernel
theorem dX0_middleHair_1 : decode cX0_middleHair 1 = .ok (.invokevirtual 71, 3) := by decide +kernel
theorem dX0_middleHair_4 : decode cX0_middleHair 4 = .ok (.istore_n 1, 1) := by decide +kernel
theorem dX0_middleHair_5 : decode cX0_middleHair 5 = .ok (.aload_n 0, 1) := by decide +kernel
theorem dX0_middleHair_6 : decode cX0_middleHair 6 = .ok (.iload_n 1, 1) := by decide +kernel
theorem dX0_middleHair_7 : decode cX0_middleHair 7 = .ok (.invokevirtual 152, 3) := by decide +kernel
theorem dX0_middleHair_10 : decode cX0_middleHair 10 = .ok (.istore_n 2, 1) := by decide +kernel
theorem dX0_middleHair_11 : decode cX0_middleHair 11 = .ok (.iconst (-1), 1) := by decide +kernel
theorem dX0_middleHair_12 : decode cX0_middleHair 12 = .ok (.istore_n 3, 1) := by decide +kernel
theorem dX0_middleHair_13 : decode cX0_middleHair 13 = .ok (.iload_n 1, 1) := by decide +kernel
theorem dX0_middleHair_14 : decode cX0_middleHair 14 = .ok (.istore 4, 2) := by decide +kernel
theorem dX0_middleHair_16 : decode cX0_middleHair 16 = .ok (.iconst 0, 1) := by decide +kernel
theorem dX0_middleHair_17 : decode cX0_middleHair 17 = .ok (.istore 5, 2) := by decide +kernel
theorem dX0_middleHair_19 : decode cX0_middleHair 19 = .ok (.iload 5, 2) := by decide +kernel
theorem dX0_middleHair_21 : decode cX0_middleHair 21 = .ok (.bipush 10, 2) := by decide +kernel
theorem dX0_middleHair_23 : decode cX0_middleHair 23 = .ok (.if_icmp .gt 47, 3) := by decide +kernel
theorem dX0_middleHair_26 : decode cX0_middleHair 26 = .ok (.iload 4, 2) := by decide +kernel
theorem dX0_middleHair_28 : decode cX0_middleHair 28 = .ok (.iload_n 3, 1) := by decide +kernel
theorem dX0_middleHair_29 : decode cX0_middleHair 29 = .ok (.isub, 1) := by decide +kernel
theorem dX0_middleHair_30 : decode cX0_middleHair 30 = .ok (.iconst 1, 1) := by decide +kernel
theorem dX0_middleHair_31 : decode cX0_middleHair 31 = .ok (.if_icmp .le 39, 3) := by decide +kernel
theorem dX0_middleHair_34 : decode cX0_middleHair 34 = .ok (.iload_n 3, 1) := by decide +kernel
theorem dX0_middleHair_35 : decode cX0_middleHair 35 = .ok (.iload 4, 2) := by decide +kernel
theorem dX0_middleHair_37 : decode cX0_middleHair 37 = .ok (.iadd, 1) := by decide +kernel
theorem dX0_middleHair_38 : decode cX0_middleHair 38 = .ok (.iconst 2, 1) := by decide +kernel
theorem dX0_middleHair_39 : decode cX0_middleHair 39 = .ok (.idiv, 1) := by decide +kernel
theorem dX0_middleHair_40 : decode cX0_middleHair 40 = .ok (.istore 6, 2) := by decide +kernel
theorem dX0_middleHair_42 : decode cX0_middleHair 42 = .ok (.iconst 2, 1) := by decide +kernel
theorem dX0_middleHair_43 : decode cX0_middleHair 43 = .ok (.aload_n 0, 1) := by decide +kernel
theorem dX0_middleHair_44 : decode cX0_middleHair 44 = .ok (.iload 6, 2) := by decide +kernel
theorem dX0_middleHair_46 : decode cX0_middleHair 46 = .ok (.invokevirtual 152, 3) := by decide +kernel
theorem dX0_middleHair_49 : decode cX0_middleHair 49 = .ok (.imul, 1) := by decide +kernel
theorem dX0_middleHair_50 : decode cX0_middleHair 50 = .ok (.iload_n 2, 1) := by decide +kernel
theorem dX0_middleHair_51 : decode cX0_middleHair 51 = .ok (.if_icmp .lt 10, 3) := by decide +kernel
theorem dX0_middleHair_54 : decode cX0_middleHair 54 = .ok (.iload 6, 2) := by decide +kernel
theorem dX0_middleHair_56 : decode cX0_middleHair 56 = .ok (.istore 4, 2) := by decide +kernel
theorem dX0_middleHair_58 : decode cX0_middleHair 58 = .ok (.goto 6, 3) := by decide +kernel
theorem dX0_middleHair_61 : decode cX0_middleHair 61 = .ok (.iload 6, 2) := by decide +kernel
theorem dX0_middleHair_63 : decode cX0_middleHair 63 = .ok (.istore_n 3, 1) := by decide +kernel
theorem dX0_middleHair_64 : decode cX0_middleHair 64 = .ok (.iinc 5 1, 3) := by decide +kernel
theorem dX0_middleHair_67 : decode cX0_middleHair 67 = .ok (.goto (-48), 3) := by decide +kernel
theorem dX0_middleHair_70 : decode cX0_middleHair 70 = .ok (.iload 4, 2) := by decide +kernel
theorem dX0_middleHair_72 : decode cX0_middleHair 72 = .ok (.ireturn, 1) := by decide +kernel
theorem dX0_inkAhead_0 : decode cX0_inkAhead 0 = .ok (.iconst 0, 1) := by decide +kernel
theorem dX0_inkAhead_1 : decode cX0_inkAhead 1 = .ok (.istore_n 2, 1) := by decide +kernel
theorem dX0_inkAhead_2 : decode cX0_inkAhead 2 = .ok (.aload_n 0, 1) := by decide +kernel
theorem dX0_inkAhead_3 : decode cX0_inkAhead 3 = .ok (.getfield 9, 3) := by decide +kernel
theorem dX0_inkAhead_6 : decode cX0_inkAhead 6 = .ok (.getfield 54, 3) := by decide +kernel
theorem dX0_inkAhead_9 : decode cX0_inkAhead 9 = .ok (.istore_n 3, 1) := by decide +kernel
theorem dX0_inkAhead_10 : decode cX0_inkAhead 10 = .ok (.iconst 0, 1) := by decide +kernel
theorem dX0_inkAhead_11 : decode cX0_inkAhead 11 = .ok (.istore 4, 2) := by decide +kernel
theorem dX0_inkAhead_13 : decode cX0_inkAhead 13 = .ok (.iload 4, 2) := by decide +kernel
theorem dX0_inkAhead_15 : decode cX0_inkAhead 15 = .ok (.aload_n 0, 1) := by decide +kernel
theorem dX0_inkAhead_16 : decode cX0_inkAhead 16 = .ok (.getfield 9, 3) := by decide +kernel
theorem dX0_inkAhead_19 : decode cX0_inkAhead 19 = .ok (.getfield 65, 3) := by decide +kernel
theorem dX0_inkAhead_22 : decode cX0_inkAhead 22 = .ok (.if_icmp .ge 120, 3) := by decide +kernel
theorem dX0_inkAhead_25 : decode cX0_inkAhead 25 = .ok (.aload_n 0, 1) := by decide +kernel
theorem dX0_inkAhead_26 : decode cX0_inkAhead 26 = .ok (.getfield 9, 3) := by decide +kernel
theorem dX0_inkAhead_29 : decode cX0_inkAhead 29 = .ok (.getfield 46, 3) := by decide +kernel
theorem dX0_inkAhead_32 : decode cX0_inkAhead 32 = .ok (.iload 4, 2) := by decide +kernel
theorem dX0_inkAhead_34 : decode cX0_inkAhead 34 = .ok (.iaload, 1) := by decide +kernel
theorem dX0_inkAhead_35 : decode cX0_inkAhead 35 = .ok (.istore 5, 2) := by decide +kernel
theorem dX0_inkAhead_37 : decode cX0_inkAhead 37 = .ok (.aload_n 0, 1) := by decide +kernel
theorem dX0_inkAhead_38 : decode cX0_inkAhead 38 = .ok (.iload 4, 2) := by decide +kernel
theorem dX0_inkAhead_40 : decode cX0_inkAhead 40 = .ok (.invokevirtual 58, 3) := by decide +kernel
theorem dX0_inkAhead_43 : decode cX0_inkAhead 43 = .ok (.istore 6, 2) := by decide +kernel
theorem dX0_inkAhead_45 : decode cX0_inkAhead 45 = .ok (.iconst 0, 1) := by decide +kernel
theorem dX0_inkAhead_46 : decode cX0_inkAhead 46 = .ok (.istore 7, 2) := by decide +kernel
theorem dX0_inkAhead_48 : decode cX0_inkAhead 48 = .ok (.iload 7, 2) := by decide +kernel
theorem dX0_inkAhead_50 : decode cX0_inkAhead 50 = .ok (.iconst 5, 1) := by decide +kernel
theorem dX0_inkAhead_51 : decode cX0_inkAhead 51 = .ok (.if_icmp .ge 58, 3) := by decide +kernel
theorem dX0_inkAhead_54 : decode cX0_inkAhead 54 = .ok (.iload_n 3, 1) := by decide +kernel
theorem dX0_inkAhead_55 : decode cX0_inkAhead 55 = .ok (.aload_n 0, 1) := by decide +kernel
theorem dX0_inkAhead_56 : decode cX0_inkAhead 56 = .ok (.getfield 9, 3) := by decide +kernel
theorem dX0_inkAhead_59 : decode cX0_inkAhead 59 = .ok (.iload 5, 2) := by decide +kernel
theorem dX0_inkAhead_61 : decode cX0_inkAhead 61 = .ok (.iload 7, 2) := by decide +kernel
theorem dX0_inkAhead_63 : decode cX0_inkAhead 63 = .ok (.invokevirtual 90, 3) := by decide +kernel
theorem dX0_inkAhead_66 : decode cX0_inkAhead 66 = .ok (.iadd, 1) := by decide +kernel
theorem dX0_inkAhead_67 : decode cX0_inkAhead 67 = .ok (.istore 8, 2) := by decide +kernel
theorem dX0_inkAhead_69 : decode cX0_inkAhead 69 = .ok (.iload_n 1, 1) := by decide +kernel
theorem dX0_inkAhead_70 : decode cX0_inkAhead 70 = .ok (.iload_n 3, 1) := by decide +kernel
theorem dX0_inkAhead_71 : decode cX0_inkAhead 71 = .ok (.iload 6, 2) := by decide +kernel
theorem dX0_inkAhead_73 : decode cX0_inkAhead 73 = .ok (.iadd, 1) := by decide +kernel
theorem dX0_inkAhead_74 : decode cX0_inkAhead 74 = .ok (.aload_n 0, 1) := by decide +kernel
theorem dX0_inkAhead_75 : decode cX0_inkAhead 75 = .ok (.getfield 9, 3) := by decide +kernel
theorem dX0_inkAhead_78 : decode cX0_inkAhead 78 = .ok (.iload 5, 2) := by decide +kernel
theorem dX0_inkAhead_80 : decode cX0_inkAhead 80 = .ok (.iload 7, 2) := by decide +kernel
theorem dX0_inkAhead_82 : decode cX0_inkAhead 82 = .ok (.invokevirtual 87, 3) := by decide +kernel
theorem dX0_inkAhead_85 : decode cX0_inkAhead 85 = .ok (.isub, 1) := by decide +kernel
theorem dX0_inkAhead_86 : decode cX0_inkAhead 86 = .ok (.invokestatic 96, 3) := by decide +kernel
theorem dX0_inkAhead_89 : decode cX0_inkAhead 89 = .ok (.istore 9, 2) := by decide +kernel
theorem dX0_inkAhead_91 : decode cX0_inkAhead 91 = .ok (.iload_n 2, 1) := by decide +kernel
theorem dX0_inkAhead_92 : decode cX0_inkAhead 92 = .ok (.iconst 0, 1) := by decide +kernel
theorem dX0_inkAhead_93 : decode cX0_inkAhead 93 = .ok (.iload 9, 2) := by decide +kernel
theorem dX0_inkAhead_95 : decode cX0_inkAhead 95 = .ok (.iload 8, 2) := by decide +kernel
theorem dX0_inkAhead_97 : decode cX0_inkAhead 97 = .ok (.isub, 1) := by decide +kernel
theorem dX0_inkAhead_98 : decode cX0_inkAhead 98 = .ok (.invokestatic 81, 3) := by decide +kernel
theorem dX0_inkAhead_101 : decode cX0_inkAhead 101 = .ok (.iadd, 1) := by decide +kernel
theorem dX0_inkAhead_102 : decode cX0_inkAhead 102 = .ok (.istore_n 2, 1) := by decide +kernel
theorem dX0_inkAhead_103 : decode cX0_inkAhead 103 = .ok (.iinc 7 1, 3) := by decide +kernel
theorem dX0_inkAhead_106 : decode cX0_inkAhead 106 = .ok (.goto (-58), 3) := by decide +kernel
theorem dX0_inkAhead_109 : decode cX0_inkAhead 109 = .ok (.iload_n 3, 1) := by decide +kernel
theorem dX0_inkAhead_110 : decode cX0_inkAhead 110 = .ok (.iload 6, 2) := by decide +kernel
theorem dX0_inkAhead_112 : decode cX0_inkAhead 112 = .ok (.iload 4, 2) := by decide +kernel
theorem dX0_inkAhead_114 : decode cX0_inkAhead 114 = .ok (.bipush 13, 2) := by decide +kernel
theorem dX0_inkAhead_116 : decode cX0_inkAhead 116 = .ok (.if_icmp .ge 16, 3) := by decide +kernel
theorem dX0_inkAhead_119 : decode cX0_inkAhead 119 = .ok (.aload_n 0, 1) := by decide +kernel
theorem dX0_inkAhead_120 : decode cX0_inkAhead 120 = .ok (.getfield 19, 3) := by decide +kernel
theorem dX0_inkAhead_123 : decode cX0_inkAhead 123 = .ok (.getfield 62, 3) := by decide +kernel
theorem dX0_inkAhead_126 : decode cX0_inkAhead 126 = .ok (.iload 4, 2) := by decide +kernel
theorem dX0_inkAhead_128 : decode cX0_inkAhead 128 = .ok (.iaload, 1) := by decide +kernel
theorem dX0_inkAhead_129 : decode cX0_inkAhead 129 = .ok (.goto 4, 3) := by decide +kernel
theorem dX0_inkAhead_132 : decode cX0_inkAhead 132 = .ok (.iconst 0, 1) := by decide +kernel
theorem dX0_inkAhead_133 : decode cX0_inkAhead 133 = .ok (.iadd, 1) := by decide +kernel
theorem dX0_inkAhead_134 : decode cX0_inkAhead 134 = .ok (.iadd, 1) := by decide +kernel
theorem dX0_inkAhead_135 : decode cX0_inkAhead 135 = .ok (.istore_n 3, 1) := by decide +kernel
theorem dX0_inkAhead_136 : decode cX0_inkAhead 136 = .ok (.iinc 4 1, 3) := by decide +kernel
theorem dX0_inkAhead_139 : decode cX0_inkAhead 139 = .ok (.goto (-126), 3) := by decide +kernel
theorem dX0_inkAhead_142 : decode cX0_inkAhead 142 = .ok (.iload_n 2, 1) := by decide +kernel
theorem dX0_inkAhead_143 : decode cX0_inkAhead 143 = .ok (.ireturn, 1) := by decide +kernel
theorem dX0_clearness_0 : decode cX0_clearness 0 = .ok (.iconst 0, 1) := by decide +kernel
theorem dX0_clearness_1 : decode cX0_clearness 1 = .ok (.aload_n 0, 1) := by decide +kernel
theorem dX0_clearness_2 : decode cX0_clearness 2 = .ok (.getfield 9, 3) := by decide +kernel
theorem dX0_clearness_5 : decode cX0_clearness 5 = .ok (.getfield 155, 3) := by decide +kernel
theorem dX0_clearness_8 : decode cX0_clearness 8 = .ok (.aload_n 0, 1) := by decide +kernel
theorem dX0_clearness_9 : decode cX0_clearness 9 = .ok (.iload_n 1, 1) := by decide +kernel
theorem dX0_clearness_10 : decode cX0_clearness 10 = .ok (.iload_n 2, 1) := by decide +kernel
theorem dX0_clearness_11 : decode cX0_clearness 11 = .ok (.invokevirtual 158, 3) := by decide +kernel
theorem dX0_clearness_14 : decode cX0_clearness 14 = .ok (.isub, 1) := by decide +kernel
theorem dX0_clearness_15 : decode cX0_clearness 15 = .ok (.invokestatic 81, 3) := by decide +kernel
theorem dX0_clearness_18 : decode cX0_clearness 18 = .ok (.ireturn, 1) := by decide +kernel
theorem dX0_tightestSpace_0 : decode cX0_tightestSpace 0 = .ok (.bipush 60, 2) := by decide +kernel
theorem dX0_tightestSpace_2 : decode cX0_tightestSpace 2 = .ok (.istore_n 2, 1) := by decide +kernel
theorem dX0_tightestSpace_3 : decode cX0_tightestSpace 3 = .ok (.iconst 0, 1) := by decide +kernel
theorem dX0_tightestSpace_4 : decode cX0_tightestSpace 4 = .ok (.istore_n 3, 1) := by decide +kernel
theorem dX0_tightestSpace_5 : decode cX0_tightestSpace 5 = .ok (.iload_n 3, 1) := by decide +kernel
theorem dX0_tightestSpace_6 : decode cX0_tightestSpace 6 = .ok (.aload_n 0, 1) := by decide +kernel
theorem dX0_tightestSpace_7 : decode cX0_tightestSpace 7 = .ok (.getfield 9, 3) := by decide +kernel
theorem dX0_tightestSpace_10 : decode cX0_tightestSpace 10 = .ok (.invokevirtual 143, 3) := by decide +kernel
theorem dX0_tightestSpace_13 : decode cX0_tightestSpace 13 = .ok (.if_icmp .ge 29, 3) := by decide +kernel
theorem dX0_tightestSpace_16 : decode cX0_tightestSpace 16 = .ok (.iload_n 2, 1) := by decide +kernel
theorem dX0_tightestSpace_17 : decode cX0_tightestSpace 17 = .ok (.aload_n 0, 1) := by decide +kernel
theorem dX0_tightestSpace_18 : decode cX0_tightestSpace 18 = .ok (.iload_n 3, 1) := by decide +kernel
theorem dX0_tightestSpace_19 : decode cX0_tightestSpace 19 = .ok (.aload_n 0, 1) := by decide +kernel
theorem dX0_tightestSpace_20 : decode cX0_tightestSpace 20 = .ok (.getfield 19, 3) := by decide +kernel
theorem dX0_tightestSpace_23 : decode cX0_tightestSpace 23 = .ok (.getfield 62, 3) := by decide +kernel
theorem dX0_tightestSpace_26 : decode cX0_tightestSpace 26 = .ok (.iload_n 3, 1) := by decide +kernel
theorem dX0_tightestSpace_27 : decode cX0_tightestSpace 27 = .ok (.iaload, 1) := by decide +kernel
theorem dX0_tightestSpace_28 : decode cX0_tightestSpace 28 = .ok (.iload_n 1, 1) := by decide +kernel
theorem dX0_tightestSpace_29 : decode cX0_tightestSpace 29 = .ok (.invokevirtual 161, 3) := by decide +kernel
theorem dX0_tightestSpace_32 : decode cX0_tightestSpace 32 = .ok (.invokestatic 96, 3) := by decide +kernel
theorem dX0_tightestSpace_35 : decode cX0_tightestSpace 35 = .ok (.istore_n 2, 1) := by decide +kernel
theorem dX0_tightestSpace_36 : decode cX0_tightestSpace 36 = .ok (.iinc 3 1, 3) := by decide +kernel
theorem dX0_tightestSpace_39 : decode cX0_tightestSpace 39 = .ok (.goto (-34), 3) := by decide +kernel
theorem dX0_tightestSpace_42 : decode cX0_tightestSpace 42 = .ok (.iload_n 2, 1) := by decide +kernel
theorem dX0_tightestSpace_43 : decode cX0_tightestSpace 43 = .ok (.ireturn, 1) := by decide +kernel
theorem dX0_isRead_0 : decode cX0_isRead 0 = .ok (.aload_n 0, 1) := by decide +kernel
theorem dX0_isRead_1 : decode cX0_isRead 1 = .ok (.iload_n 1, 1) := by decide +kernel
theorem dX0_isRead_2 : decode cX0_isRead 2 = .ok (.iload_n 2, 1) := by decide +kernel
theorem dX0_isRead_3 : decode cX0_isRead 3 = .ok (.invokevirtual 164, 3) := by decide +kernel
theorem dX0_isRead_6 : decode cX0_isRead 6 = .ok (.iload_n 3, 1) := by decide +kernel
theorem dX0_isRead_7 : decode cX0_isRead 7 = .ok (.imul, 1) := by decide +kernel
theorem dX0_isRead_8 : decode cX0_isRead 8 = .ok (.iload_n 1, 1) := by decide +kernel
theorem dX0_isRead_9 : decode cX0_isRead 9 = .ok (.if_icmp .lt 7, 3) := by decide +kernel
theorem dX0_isRead_12 : decode cX0_isRead 12 = .ok (.iconst 1, 1) := by decide +kernel
theorem dX0_isRead_13 : decode cX0_isRead 13 = .ok (.goto 4, 3) := by decide +kernel
theorem dX0_isRead_16 : decode cX0_isRead 16 = .ok (.iconst 0, 1) := by decide +kernel
theorem dX0_isRead_17 : decode cX0_isRead 17 = .ok (.ireturn, 1) := by decide +kernel
theorem dX0_farthestBy_0 : decode cX0_farthestBy 0 = .ok (.aload_n 0, 1) := by decide +kernel
theorem dX0_farthestBy_1 : decode cX0_farthestBy 1 = .ok (.aload_n 0, 1) := by decide +kernel
theorem dX0_farthestBy_2 : decode cX0_farthestBy 2 = .ok (.getfield 19, 3) := by decide +kernel
theorem dX0_farthestBy_5 : decode cX0_farthestBy 5 = .ok (.getfield 78, 3) := by decide +kernel
theorem dX0_farthestBy_8 : decode cX0_farthestBy 8 = .ok (.invokevirtual 167, 3) := by decide +kernel
theorem dX0_farthestBy_11 : decode cX0_farthestBy 11 = .ok (.istore_n 2, 1) := by decide +kernel
theorem dX0_farthestBy_12 : decode cX0_farthestBy 12 = .ok (.iconst 0, 1) := by decide +kernel
theorem dX0_farthestBy_13 : decode cX0_farthestBy 13 = .ok (.istore_n 3, 1) := by decide +kernel
theorem dX0_farthestBy_14 : decode cX0_farthestBy 14 = .ok (.iload_n 3, 1) := by decide +kernel
theorem dX0_farthestBy_15 : decode cX0_farthestBy 15 = .ok (.bipush 60, 2) := by decide +kernel
theorem dX0_farthestBy_17 : decode cX0_farthestBy 17 = .ok (.if_icmp .ge 21, 3) := by decide +kernel
theorem dX0_farthestBy_20 : decode cX0_farthestBy 20 = .ok (.aload_n 0, 1) := by decide +kernel
theorem dX0_farthestBy_21 : decode cX0_farthestBy 21 = .ok (.iload_n 3, 1) := by decide +kernel
theorem dX0_farthestBy_22 : decode cX0_farthestBy 22 = .ok (.iconst 1, 1) := by decide +kernel
theorem dX0_farthestBy_23 : decode cX0_farthestBy 23 = .ok (.iadd, 1) := by decide +kernel
theorem dX0_farthestBy_24 : decode cX0_farthestBy 24 = .ok (.iload_n 1, 1) := by decide +kernel
theorem dX0_farthestBy_25 : decode cX0_farthestBy 25 = .ok (.iload_n 2, 1) := by decide +kernel
theorem dX0_farthestBy_26 : decode cX0_farthestBy 26 = .ok (.invokevirtual 170, 3) := by decide +kernel
theorem dX0_farthestBy_29 : decode cX0_farthestBy 29 = .ok (.ifCond .eq 9, 3) := by decide +kernel
theorem dX0_farthestBy_32 : decode cX0_farthestBy 32 = .ok (.iinc 3 1, 3) := by decide +kernel
theorem dX0_farthestBy_35 : decode cX0_farthestBy 35 = .ok (.goto (-21), 3) := by decide +kernel
theorem dX0_farthestBy_38 : decode cX0_farthestBy 38 = .ok (.iload_n 3, 1) := by decide +kernel
theorem dX0_farthestBy_39 : decode cX0_farthestBy 39 = .ok (.ireturn, 1) := by decide +kernel
theorem dX1_init_0 : decode cX1_init 0 = .ok (.aload_n 0, 1) := by decide +kernel
theorem dX1_init_1 : decode cX1_init 1 = .ok (.invokespecial 1, 3) := by decide +kernel
theorem dX1_init_4 : decode cX1_init 4 = .ok (.aload_n 0, 1) := by decide +kernel
theorem dX1_init_5 : decode cX1_init 5 = .ok (.bipush 12, 2) := by decide +kernel
theorem dX1_init_7 : decode cX1_init 7 = .ok (.anewarray 9, 3) := by decide +kernel
theorem dX1_init_10 : decode cX1_init 10 = .ok (.putfield 11, 3) := by decide +kernel
theorem dX1_init_13 : decode cX1_init 13 = .ok (.iconst 0, 1) := by decide +kernel
theorem dX1_init_14 : decode cX1_init 14 = .ok (.istore_n 1, 1) := by decide +kernel
theorem dX1_init_15 : decode cX1_init 15 = .ok (.iload_n 1, 1) := by decide +kernel
theorem dX1_init_16 : decode cX1_init 16 = .ok (.bipush 12, 2) := by decide +kernel
theorem dX1_init_18 : decode cX1_init 18 = .ok (.if_icmp .ge 22, 3) := by decide +kernel
theorem dX1_init_21 : decode cX1_init 21 = .ok (.aload_n 0, 1) := by decide +kernel
theorem dX1_init_22 : decode cX1_init 22 = .ok (.getfield 11, 3) := by decide +kernel
theorem dX1_init_25 : decode cX1_init 25 = .ok (.iload_n 1, 1) := by decide +kernel
theorem dX1_init_26 : decode cX1_init 26 = .ok (.new 9, 3) := by decide +kernel
theorem dX1_init_29 : decode cX1_init 29 = .ok (.dup, 1) := by decide +kernel
theorem dX1_init_30 : decode cX1_init 30 = .ok (.invokespecial 15, 3) := by decide +kernel
theorem dX1_init_33 : decode cX1_init 33 = .ok (.aastore, 1) := by decide +kernel
theorem dX1_init_34 : decode cX1_init 34 = .ok (.iinc 1 1, 3) := by decide +kernel
theorem dX1_init_37 : decode cX1_init 37 = .ok (.goto (-22), 3) := by decide +kernel
theorem dX1_init_40 : decode cX1_init 40 = .ok (.return_, 1) := by decide +kernel
theorem dX1_clear_0 : decode cX1_clear 0 = .ok (.aload_n 0, 1) := by decide +kernel
theorem dX1_clear_1 : decode cX1_clear 1 = .ok (.iconst 0, 1) := by decide +kernel
theorem dX1_clear_2 : decode cX1_clear 2 = .ok (.putfield 16, 3) := by decide +kernel
theorem dX1_clear_5 : decode cX1_clear 5 = .ok (.return_, 1) := by decide +kernel
theorem dX1_remember_0 : decode cX1_remember 0 = .ok (.aload_n 0, 1) := by decide +kernel
theorem dX1_remember_1 : decode cX1_remember 1 = .ok (.getfield 11, 3) := by decide +kernel
theorem dX1_remember_4 : decode cX1_remember 4 = .ok (.aload_n 0, 1) := by decide +kernel
theorem dX1_remember_5 : decode cX1_remember 5 = .ok (.getfield 20, 3) := by decide +kernel
theorem dX1_remember_8 : decode cX1_remember 8 = .ok (.aaload, 1) := by decide +kernel
theorem dX1_remember_9 : decode cX1_remember 9 = .ok (.aload_n 1, 1) := by decide +kernel
theorem dX1_remember_10 : decode cX1_remember 10 = .ok (.invokevirtual 23, 3) := by decide +kernel
theorem dX1_remember_13 : decode cX1_remember 13 = .ok (.aload_n 0, 1) := by decide +kernel
theorem dX1_remember_14 : decode cX1_remember 14 = .ok (.aload_n 0, 1) := by decide +kernel
theorem dX1_remember_15 : decode cX1_remember 15 = .ok (.getfield 20, 3) := by decide +kernel
theorem dX1_remember_18 : decode cX1_remember 18 = .ok (.iconst 1, 1) := by decide +kernel
theorem dX1_remember_19 : decode cX1_remember 19 = .ok (.iadd, 1) := by decide +kernel
theorem dX1_remember_20 : decode cX1_remember 20 = .ok (.bipush 12, 2) := by decide +kernel
theorem dX1_remember_22 : decode cX1_remember 22 = .ok (.irem, 1) := by decide +kernel
theorem dX1_remember_23 : decode cX1_remember 23 = .ok (.putfield 20, 3) := by decide +kernel
theorem dX1_remember_26 : decode cX1_remember 26 = .ok (.aload_n 0, 1) := by decide +kernel
theorem dX1_remember_27 : decode cX1_remember 27 = .ok (.bipush 12, 2) := by decide +kernel
theorem dX1_remember_29 : decode cX1_remember 29 = .ok (.aload_n 0, 1) := by decide +kernel
theorem dX1_remember_30 : decode cX1_remember 30 = .ok (.getfield 16, 3) := by decide +kernel
theorem dX1_remember_33 : decode cX1_remember 33 = .ok (.iconst 1, 1) := by decide +kernel
theorem dX1_remember_34 : decode cX1_remember 34 = .ok (.iadd, 1) := by decide +kernel
theorem dX1_remember_35 : decode cX1_remember 35 = .ok (.invokestatic 27, 3) := by decide +kernel
theorem dX1_remember_38 : decode cX1_remember 38 = .ok (.putfield 16, 3) := by decide +kernel
theorem dX1_remember_41 : decode cX1_remember 41 = .ok (.return_, 1) := by decide +kernel
theorem dX1_recall_0 : decode cX1_recall 0 = .ok (.aload_n 0, 1) := by decide +kernel
theorem dX1_recall_1 : decode cX1_recall 1 = .ok (.getfield 16, 3) := by decide +kernel
theorem dX1_recall_4 : decode cX1_recall 4 = .ok (.ifCond .ne 5, 3) := by decide +kernel
theorem dX1_recall_7 : decode cX1_recall 7 = .ok (.iconst 0, 1) := by decide +kernel
theorem dX1_recall_8 : decode cX1_recall 8 = .ok (.ireturn, 1) := by decide +kernel
theorem dX1_recall_9 : decode cX1_recall 9 = .ok (.aload_n 0, 1) := by decide +kernel
theorem dX1_recall_10 : decode cX1_recall 10 = .ok (.aload_n 0, 1) := by decide +kernel
theorem dX1_recall_11 : decode cX1_recall 11 = .ok (.getfield 20, 3) := by decide +kernel
theorem dX1_recall_14 : decode cX1_recall 14 = .ok (.bipush 12, 2) := by decide +kernel
theorem dX1_recall_16 : decode cX1_recall 16 = .ok (.iadd, 1) := by decide +kernel
theorem dX1_recall_17 : decode cX1_recall 17 = .ok (.iconst 1, 1) := by decide +kernel
theorem dX1_recall_18 : decode cX1_recall 18 = .ok (.isub, 1) := by decide +kernel
theorem dX1_recall_19 : decode cX1_recall 19 = .ok (.bipush 12, 2) := by decide +kernel
theorem dX1_recall_21 : decode cX1_recall 21 = .ok (.irem, 1) := by decide +kernel
theorem dX1_recall_22 : decode cX1_recall 22 = .ok (.putfield 20, 3) := by decide +kernel
theorem dX1_recall_25 : decode cX1_recall 25 = .ok (.aload_n 0, 1) := by decide +kernel
theorem dX1_recall_26 : decode cX1_recall 26 = .ok (.dup, 1) := by decide +kernel
theorem dX1_recall_27 : decode cX1_recall 27 = .ok (.getfield 16, 3) := by decide +kernel
theorem dX1_recall_30 : decode cX1_recall 30 = .ok (.iconst 1, 1) := by decide +kernel
theorem dX1_recall_31 : decode cX1_recall 31 = .ok (.isub, 1) := by decide +kernel
theorem dX1_recall_32 : decode cX1_recall 32 = .ok (.putfield 16, 3) := by decide +kernel
theorem dX1_recall_35 : decode cX1_recall 35 = .ok (.aload_n 1, 1) := by decide +kernel
theorem dX1_recall_36 : decode cX1_recall 36 = .ok (.aload_n 0, 1) := by decide +kernel
theorem dX1_recall_37 : decode cX1_recall 37 = .ok (.getfield 11, 3) := by decide +kernel
theorem dX1_recall_40 : decode cX1_recall 40 = .ok (.aload_n 0, 1) := by decide +kernel
theorem dX1_recall_41 : decode cX1_recall 41 = .ok (.getfield 20, 3) := by decide +kernel
theorem dX1_recall_44 : decode cX1_recall 44 = .ok (.aaload, 1) := by decide +kernel
theorem dX1_recall_45 : decode cX1_recall 45 = .ok (.invokevirtual 23, 3) := by decide +kernel
theorem dX1_recall_48 : decode cX1_recall 48 = .ok (.iconst 1, 1) := by decide +kernel
theorem dX1_recall_49 : decode cX1_recall 49 = .ok (.ireturn, 1) := by decide +kernel
theorem dX2_init_0 : decode cX2_init 0 = .ok (.aload_n 0, 1) := by decide +kernel
theorem dX2_init_1 : decode cX2_init 1 = .ok (.invokespecial 7, 3) := by decide +kernel
theorem dX2_init_4 : decode cX2_init 4 = .ok (.aload_n 0, 1) := by decide +kernel
theorem dX2_init_5 : decode cX2_init 5 = .ok (.iconst (-1), 1) := by decide +kernel
theorem dX2_init_6 : decode cX2_init 6 = .ok (.putfield 13, 3) := by decide +kernel
theorem dX2_init_9 : decode cX2_init 9 = .ok (.aload_n 0, 1) := by decide +kernel
theorem dX2_init_10 : decode cX2_init 10 = .ok (.bipush 12, 2) := by decide +kernel
theorem dX2_init_12 : decode cX2_init 12 = .ok (.newarray .int, 2) := by decide +kernel
theorem dX2_init_14 : decode cX2_init 14 = .ok (.putfield 17, 3) := by decide +kernel
theorem dX2_init_17 : decode cX2_init 17 = .ok (.aload_n 0, 1) := by decide +kernel
theorem dX2_init_18 : decode cX2_init 18 = .ok (.bipush 12, 2) := by decide +kernel
theorem dX2_init_20 : decode cX2_init 20 = .ok (.newarray .int, 2) := by decide +kernel
theorem dX2_init_22 : decode cX2_init 22 = .ok (.putfield 21, 3) := by decide +kernel
theorem dX2_init_25 : decode cX2_init 25 = .ok (.aload_n 0, 1) := by decide +kernel
theorem dX2_init_26 : decode cX2_init 26 = .ok (.bipush 12, 2) := by decide +kernel
theorem dX2_init_28 : decode cX2_init 28 = .ok (.newarray .int, 2) := by decide +kernel
theorem dX2_init_30 : decode cX2_init 30 = .ok (.putfield 24, 3) := by decide +kernel
theorem dX2_init_33 : decode cX2_init 33 = .ok (.aload_n 0, 1) := by decide +kernel
theorem dX2_init_34 : decode cX2_init 34 = .ok (.sipush 400, 3) := by decide +kernel
theorem dX2_init_37 : decode cX2_init 37 = .ok (.newarray .int, 2) := by decide +kernel
theorem dX2_init_39 : decode cX2_init 39 = .ok (.putfield 27, 3) := by decide +kernel
theorem dX2_init_42 : decode cX2_init 42 = .ok (.return_, 1) := by decide +kernel
theorem dX2_copyFrom_0 : decode cX2_copyFrom 0 = .ok (.aload_n 0, 1) := by decide +kernel
theorem dX2_copyFrom_1 : decode cX2_copyFrom 1 = .ok (.aload_n 1, 1) := by decide +kernel
theorem dX2_copyFrom_2 : decode cX2_copyFrom 2 = .ok (.getfield 13, 3) := by decide +kernel
theorem dX2_copyFrom_5 : decode cX2_copyFrom 5 = .ok (.putfield 13, 3) := by decide +kernel
theorem dX2_copyFrom_8 : decode cX2_copyFrom 8 = .ok (.aload_n 1, 1) := by decide +kernel
theorem dX2_copyFrom_9 : decode cX2_copyFrom 9 = .ok (.getfield 17, 3) := by decide +kernel
theorem dX2_copyFrom_12 : decode cX2_copyFrom 12 = .ok (.iconst 0, 1) := by decide +kernel
theorem dX2_copyFrom_13 : decode cX2_copyFrom 13 = .ok (.aload_n 0, 1) := by decide +kernel
theorem dX2_copyFrom_14 : decode cX2_copyFrom 14 = .ok (.getfield 17, 3) := by decide +kernel
theorem dX2_copyFrom_17 : decode cX2_copyFrom 17 = .ok (.iconst 0, 1) := by decide +kernel
theorem dX2_copyFrom_18 : decode cX2_copyFrom 18 = .ok (.bipush 12, 2) := by decide +kernel
theorem dX2_copyFrom_20 : decode cX2_copyFrom 20 = .ok (.invokestatic 30, 3) := by decide +kernel
theorem dX2_copyFrom_23 : decode cX2_copyFrom 23 = .ok (.aload_n 1, 1) := by decide +kernel
theorem dX2_copyFrom_24 : decode cX2_copyFrom 24 = .ok (.getfield 21, 3) := by decide +kernel
theorem dX2_copyFrom_27 : decode cX2_copyFrom 27 = .ok (.iconst 0, 1) := by decide +kernel
theorem dX2_copyFrom_28 : decode cX2_copyFrom 28 = .ok (.aload_n 0, 1) := by decide +kernel
theorem dX2_copyFrom_29 : decode cX2_copyFrom 29 = .ok (.getfield 21, 3) := by decide +kernel
theorem dX2_copyFrom_32 : decode cX2_copyFrom 32 = .ok (.iconst 0, 1) := by decide +kernel
theorem dX2_copyFrom_33 : decode cX2_copyFrom 33 = .ok (.bipush 12, 2) := by decide +kernel
theorem dX2_copyFrom_35 : decode cX2_copyFrom 35 = .ok (.invokestatic 30, 3) := by decide +kernel
theorem dX2_copyFrom_38 : decode cX2_copyFrom 38 = .ok (.aload_n 1, 1) := by decide +kernel
theorem dX2_copyFrom_39 : decode cX2_copyFrom 39 = .ok (.getfield 24, 3) := by decide +kernel
theorem dX2_copyFrom_42 : decode cX2_copyFrom 42 = .ok (.iconst 0, 1) := by decide +kernel
theorem dX2_copyFrom_43 : decode cX2_copyFrom 43 = .ok (.aload_n 0, 1) := by decide +kernel
theorem dX2_copyFrom_44 : decode cX2_copyFrom 44 = .ok (.getfield 24, 3) := by decide +kernel
theorem dX2_copyFrom_47 : decode cX2_copyFrom 47 = .ok (.iconst 0, 1) := by decide +kernel
theorem dX2_copyFrom_48 : decode cX2_copyFrom 48 = .ok (.bipush 12, 2) := by decide +kernel
theorem dX2_copyFrom_50 : decode cX2_copyFrom 50 = .ok (.invokestatic 30, 3) := by decide +kernel
theorem dX2_copyFrom_53 : decode cX2_copyFrom 53 = .ok (.aload_n 1, 1) := by decide +kernel
theorem dX2_copyFrom_54 : decode cX2_copyFrom 54 = .ok (.getfield 27, 3) := by decide +kernel
theorem dX2_copyFrom_57 : decode cX2_copyFrom 57 = .ok (.iconst 0, 1) := by decide +kernel
theorem dX2_copyFrom_58 : decode cX2_copyFrom 58 = .ok (.aload_n 0, 1) := by decide +kernel
theorem dX2_copyFrom_59 : decode cX2_copyFrom 59 = .ok (.getfield 27, 3) := by decide +kernel
theorem dX2_copyFrom_62 : decode cX2_copyFrom 62 = .ok (.iconst 0, 1) := by decide +kernel
theorem dX2_copyFrom_63 : decode cX2_copyFrom 63 = .ok (.sipush 400, 3) := by decide +kernel
theorem dX2_copyFrom_66 : decode cX2_copyFrom 66 = .ok (.invokestatic 30, 3) := by decide +kernel
theorem dX2_copyFrom_69 : decode cX2_copyFrom 69 = .ok (.aload_n 0, 1) := by decide +kernel
theorem dX2_copyFrom_70 : decode cX2_copyFrom 70 = .ok (.aload_n 1, 1) := by decide +kernel
theorem dX2_copyFrom_71 : decode cX2_copyFrom 71 = .ok (.getfield 36, 3) := by decide +kernel
theorem dX2_copyFrom_74 : decode cX2_copyFrom 74 = .ok (.putfield 36, 3) := by decide +kernel
theorem dX2_copyFrom_77 : decode cX2_copyFrom 77 = .ok (.return_, 1) := by decide +kernel
theorem dX2_begin_0 : decode cX2_begin 0 = .ok (.aload_n 0, 1) := by decide +kernel
theorem dX2_begin_1 : decode cX2_begin 1 = .ok (.iconst 0, 1) := by decide +kernel
theorem dX2_begin_2 : decode cX2_begin 2 = .ok (.putfield 13, 3) := by decide +kernel
theorem dX2_begin_5 : decode cX2_begin 5 = .ok (.aload_n 0, 1) := by decide +kernel
theorem dX2_begin_6 : decode cX2_begin 6 = .ok (.iconst 0, 1) := by decide +kernel
theorem dX2_begin_7 : decode cX2_begin 7 = .ok (.putfield 36, 3) := by decide +kernel
theorem dX2_begin_10 : decode cX2_begin 10 = .ok (.return_, 1) := by decide +kernel
theorem dX2_put_0 : decode cX2_put 0 = .ok (.aload_n 0, 1) := by decide +kernel
theorem dX2_put_1 : decode cX2_put 1 = .ok (.getfield 36, 3) := by decide +kernel
theorem dX2_put_4 : decode cX2_put 4 = .ok (.sipush 400, 3) := by decide +kernel
theorem dX2_put_7 : decode cX2_put 7 = .ok (.if_icmp .ge 23, 3) := by decide +kernel
theorem dX2_put_10 : decode cX2_put 10 = .ok (.aload_n 0, 1) := by decide +kernel
theorem dX2_put_11 : decode cX2_put 11 = .ok (.getfield 27, 3) := by decide +kernel
theorem dX2_put_14 : decode cX2_put 14 = .ok (.aload_n 0, 1) := by decide +kernel
theorem dX2_put_15 : decode cX2_put 15 = .ok (.getfield 36, 3) := by decide +kernel
theorem dX2_put_18 : decode cX2_put 18 = .ok (.iload_n 1, 1) := by decide +kernel
theorem dX2_put_19 : decode cX2_put 19 = .ok (.iastore, 1) := by decide +kernel
theorem dX2_put_20 : decode cX2_put 20 = .ok (.aload_n 0, 1) := by decide +kernel
theorem dX2_put_21 : decode cX2_put 21 = .ok (.dup, 1) := by decide +kernel
theorem dX2_put_22 : decode cX2_put 22 = .ok (.getfield 36, 3) := by decide +kernel
theorem dX2_put_25 : decode cX2_put 25 = .ok (.iconst 1, 1) := by decide +kernel
theorem dX2_put_26 : decode cX2_put 26 = .ok (.iadd, 1) := by decide +kernel
theorem dX2_put_27 : decode cX2_put 27 = .ok (.putfield 36, 3) := by decide +kernel
theorem dX2_put_30 : decode cX2_put 30 = .ok (.return_, 1) := by decide +kernel
theorem dX2_endLine_0 : decode cX2_endLine 0 = .ok (.aload_n 0, 1) := by decide +kernel
theorem dX2_endLine_1 : decode cX2_endLine 1 = .ok (.getfield 13, 3) := by decide +kernel
theorem dX2_endLine_4 : decode cX2_endLine 4 = .ok (.bipush 12, 2) := by decide +kernel
theorem dX2_endLine_6 : decode cX2_endLine 6 = .ok (.if_icmp .ge 46, 3) := by decide +kernel
theorem dX2_endLine_9 : decode cX2_endLine 9 = .ok (.aload_n 0, 1) := by decide +kernel
theorem dX2_endLine_10 : decode cX2_endLine 10 = .ok (.getfield 17, 3) := by decide +kernel
theorem dX2_endLine_13 : decode cX2_endLine 13 = .ok (.aload_n 0, 1) := by decide +kernel
theorem dX2_endLine_14 : decode cX2_endLine 14 = .ok (.getfield 13, 3) := by decide +kernel
theorem dX2_endLine_17 : decode cX2_endLine 17 = .ok (.iload_n 1, 1) := by decide +kernel
theorem dX2_endLine_18 : decode cX2_endLine 18 = .ok (.iastore, 1) := by decide +kernel
theorem dX2_endLine_19 : decode cX2_endLine 19 = .ok (.aload_n 0, 1) := by decide +kernel
theorem dX2_endLine_20 : decode cX2_endLine 20 = .ok (.getfield 21, 3) := by decide +kernel
theorem dX2_endLine_23 : decode cX2_endLine 23 = .ok (.aload_n 0, 1) := by decide +kernel
theorem dX2_endLine_24 : decode cX2_endLine 24 = .ok (.getfield 13, 3) := by decide +kernel
theorem dX2_endLine_27 : decode cX2_endLine 27 = .ok (.iload_n 2, 1) := by decide +kernel
theorem dX2_endLine_28 : decode cX2_endLine 28 = .ok (.iastore, 1) := by decide +kernel
theorem dX2_endLine_29 : decode cX2_endLine 29 = .ok (.aload_n 0, 1) := by decide +kernel
theorem dX2_endLine_30 : decode cX2_endLine 30 = .ok (.getfield 24, 3) := by decide +kernel
theorem dX2_endLine_33 : decode cX2_endLine 33 = .ok (.aload_n 0, 1) := by decide +kernel
theorem dX2_endLine_34 : decode cX2_endLine 34 = .ok (.getfield 13, 3) := by decide +kernel
theorem dX2_endLine_37 : decode cX2_endLine 37 = .ok (.aload_n 0, 1) := by decide +kernel
theorem dX2_endLine_38 : decode cX2_endLine 38 = .ok (.getfield 36, 3) := by decide +kernel
theorem dX2_endLine_41 : decode cX2_endLine 41 = .ok (.iastore, 1) := by decide +kernel
theorem dX2_endLine_42 : decode cX2_endLine 42 = .ok (.aload_n 0, 1) := by decide +kernel
theorem dX2_endLine_43 : decode cX2_endLine 43 = .ok (.dup, 1) := by decide +kernel
theorem dX2_endLine_44 : decode cX2_endLine 44 = .ok (.getfield 13, 3) := by decide +kernel
theorem dX2_endLine_47 : decode cX2_endLine 47 = .ok (.iconst 1, 1) := by decide +kernel
theorem dX2_endLine_48 : decode cX2_endLine 48 = .ok (.iadd, 1) := by decide +kernel
theorem dX2_endLine_49 : decode cX2_endLine 49 = .ok (.putfield 13, 3) := by decide +kernel
theorem dX2_endLine_52 : decode cX2_endLine 52 = .ok (.return_, 1) := by decide +kernel
theorem dX2_codeBegin_0 : decode cX2_codeBegin 0 = .ok (.iload_n 1, 1) := by decide +kernel
theorem dX2_codeBegin_1 : decode cX2_codeBegin 1 = .ok (.ifCond .le 14, 3) := by decide +kernel
theorem dX2_codeBegin_4 : decode cX2_codeBegin 4 = .ok (.aload_n 0, 1) := by decide +kernel
theorem dX2_codeBegin_5 : decode cX2_codeBegin 5 = .ok (.getfield 24, 3) := by decide +kernel
theorem dX2_codeBegin_8 : decode cX2_codeBegin 8 = .ok (.iload_n 1, 1) := by decide +kernel
theorem dX2_codeBegin_9 : decode cX2_codeBegin 9 = .ok (.iconst 1, 1) := by decide +kernel
theorem dX2_codeBegin_10 : decode cX2_codeBegin 10 = .ok (.isub, 1) := by decide +kernel
theorem dX2_codeBegin_11 : decode cX2_codeBegin 11 = .ok (.iaload, 1) := by decide +kernel
theorem dX2_codeBegin_12 : decode cX2_codeBegin 12 = .ok (.goto 4, 3) := by decide +kernel
theorem dX2_codeBegin_15 : decode cX2_codeBegin 15 = .ok (.iconst 0, 1) := by decide +kernel
theorem dX2_codeBegin_16 : decode cX2_codeBegin 16 = .ok (.ireturn, 1) := by decide +kernel
theorem dX3_init_0 : decode cX3_init 0 = .ok (.aload_n 0, 1) := by decide +kernel
theorem dX3_init_1 : decode cX3_init 1 = .ok (.aload_n 1, 1) := by decide +kernel
theorem dX3_init_2 : decode cX3_init 2 = .ok (.bipush 12, 2) := by decide +kernel
theorem dX3_init_4 : decode cX3_init 4 = .ok (.invokespecial 5, 3) := by decide +kernel
theorem dX3_init_7 : decode cX3_init 7 = .ok (.aload_n 0, 1) := by decide +kernel
theorem dX3_init_8 : decode cX3_init 8 = .ok (.new 3, 3) := by decide +kernel
theorem dX3_init_11 : decode cX3_init 11 = .ok (.dup, 1) := by decide +kernel
theorem dX3_init_12 : decode cX3_init 12 = .ok (.invokespecial 11, 3) := by decide +kernel
theorem dX3_init_15 : decode cX3_init 15 = .ok (.putfield 14, 3) := by decide +kernel
theorem dX3_init_18 : decode cX3_init 18 = .ok (.return_, 1) := by decide +kernel
theorem dX3_readsLine_0 : decode cX3_readsLine 0 = .ok (.aload_n 0, 1) := by decide +kernel
theorem dX3_readsLine_1 : decode cX3_readsLine 1 = .ok (.getfield 20, 3) := by decide +kernel
theorem dX3_readsLine_4 : decode cX3_readsLine 4 = .ok (.ldc 24, 2) := by decide +kernel
theorem dX3_readsLine_6 : decode cX3_readsLine 6 = .ok (.invokevirtual 26, 3) := by decide +kernel
theorem dX3_readsLine_9 : decode cX3_readsLine 9 = .ok (.istore_n 1, 1) := by decide +kernel
theorem dX3_readsLine_10 : decode cX3_readsLine 10 = .ok (.iload_n 1, 1) := by decide +kernel
theorem dX3_readsLine_11 : decode cX3_readsLine 11 = .ok (.ifCond .ne 17, 3) := by decide +kernel
theorem dX3_readsLine_14 : decode cX3_readsLine 14 = .ok (.aload_n 0, 1) := by decide +kernel
theorem dX3_readsLine_15 : decode cX3_readsLine 15 = .ok (.getfield 20, 3) := by decide +kernel
theorem dX3_readsLine_18 : decode cX3_readsLine 18 = .ok (.ldc 32, 2) := by decide +kernel
theorem dX3_readsLine_20 : decode cX3_readsLine 20 = .ok (.invokevirtual 26, 3) := by decide +kernel
theorem dX3_readsLine_23 : decode cX3_readsLine 23 = .ok (.ifCond .ne 5, 3) := by decide +kernel
theorem dX3_readsLine_26 : decode cX3_readsLine 26 = .ok (.iconst 0, 1) := by decide +kernel
theorem dX3_readsLine_27 : decode cX3_readsLine 27 = .ok (.ireturn, 1) := by decide +kernel
theorem dX3_readsLine_28 : decode cX3_readsLine 28 = .ok (.aload_n 0, 1) := by decide +kernel
theorem dX3_readsLine_29 : decode cX3_readsLine 29 = .ok (.getfield 20, 3) := by decide +kernel
theorem dX3_readsLine_32 : decode cX3_readsLine 32 = .ok (.invokevirtual 34, 3) := by decide +kernel
theorem dX3_readsLine_35 : decode cX3_readsLine 35 = .ok (.aload_n 0, 1) := by decide +kernel
theorem dX3_readsLine_36 : decode cX3_readsLine 36 = .ok (.iconst 0, 1) := by decide +kernel
theorem dX3_readsLine_37 : decode cX3_readsLine 37 = .ok (.iload_n 1, 1) := by decide +kernel
theorem dX3_readsLine_38 : decode cX3_readsLine 38 = .ok (.ifCond .eq 8, 3) := by decide +kernel
theorem dX3_readsLine_41 : decode cX3_readsLine 41 = .ok (.bipush 99, 2) := by decide +kernel
theorem dX3_readsLine_43 : decode cX3_readsLine 43 = .ok (.goto 5, 3) := by decide +kernel
theorem dX3_readsLine_46 : decode cX3_readsLine 46 = .ok (.bipush 9, 2) := by decide +kernel
theorem dX3_readsLine_48 : decode cX3_readsLine 48 = .ok (.invokevirtual 37, 3) := by decide +kernel
theorem dX3_readsLine_51 : decode cX3_readsLine 51 = .ok (.istore_n 2, 1) := by decide +kernel
theorem dX3_readsLine_52 : decode cX3_readsLine 52 = .ok (.iload_n 2, 1) := by decide +kernel
theorem dX3_readsLine_53 : decode cX3_readsLine 53 = .ok (.iconst (-1), 1) := by decide +kernel
theorem dX3_readsLine_54 : decode cX3_readsLine 54 = .ok (.if_icmp .ne 5, 3) := by decide +kernel
theorem dX3_readsLine_57 : decode cX3_readsLine 57 = .ok (.iconst 0, 1) := by decide +kernel
theorem dX3_readsLine_58 : decode cX3_readsLine 58 = .ok (.ireturn, 1) := by decide +kernel
theorem dX3_readsLine_59 : decode cX3_readsLine 59 = .ok (.aload_n 0, 1) := by decide +kernel
theorem dX3_readsLine_60 : decode cX3_readsLine 60 = .ok (.getfield 20, 3) := by decide +kernel
theorem dX3_readsLine_63 : decode cX3_readsLine 63 = .ok (.ldc 41, 2) := by decide +kernel
theorem dX3_readsLine_65 : decode cX3_readsLine 65 = .ok (.invokevirtual 43, 3) := by decide +kernel
theorem dX3_readsLine_68 : decode cX3_readsLine 68 = .ok (.ifCond .eq 13, 3) := by decide +kernel
theorem dX3_readsLine_71 : decode cX3_readsLine 71 = .ok (.aload_n 0, 1) := by decide +kernel
theorem dX3_readsLine_72 : decode cX3_readsLine 72 = .ok (.iconst 0, 1) := by decide +kernel
theorem dX3_readsLine_73 : decode cX3_readsLine 73 = .ok (.invokevirtual 46, 3) := by decide +kernel
theorem dX3_readsLine_76 : decode cX3_readsLine 76 = .ok (.ifCond .ne 5, 3) := by decide +kernel
theorem dX3_readsLine_79 : decode cX3_readsLine 79 = .ok (.iconst 0, 1) := by decide +kernel
theorem dX3_readsLine_80 : decode cX3_readsLine 80 = .ok (.ireturn, 1) := by decide +kernel
theorem dX3_readsLine_81 : decode cX3_readsLine 81 = .ok (.aload_n 0, 1) := by decide +kernel
theorem dX3_readsLine_82 : decode cX3_readsLine 82 = .ok (.getfield 14, 3) := by decide +kernel
theorem dX3_readsLine_85 : decode cX3_readsLine 85 = .ok (.iload_n 1, 1) := by decide +kernel
theorem dX3_readsLine_86 : decode cX3_readsLine 86 = .ok (.ifCond .eq 7, 3) := by decide +kernel
theorem dX3_readsLine_89 : decode cX3_readsLine 89 = .ok (.iconst 1, 1) := by decide +kernel
theorem dX3_readsLine_90 : decode cX3_readsLine 90 = .ok (.goto 4, 3) := by decide +kernel
theorem dX3_readsLine_93 : decode cX3_readsLine 93 = .ok (.iconst 0, 1) := by decide +kernel
theorem dX3_readsLine_94 : decode cX3_readsLine 94 = .ok (.iload_n 2, 1) := by decide +kernel
theorem dX3_readsLine_95 : decode cX3_readsLine 95 = .ok (.invokevirtual 50, 3) := by decide +kernel
theorem dX3_readsLine_98 : decode cX3_readsLine 98 = .ok (.iconst 1, 1) := by decide +kernel
theorem dX3_readsLine_99 : decode cX3_readsLine 99 = .ok (.ireturn, 1) := by decide +kernel
theorem dX3_readsCondition_0 : decode cX3_readsCondition 0 = .ok (.iconst 0, 1) := by decide +kernel
theorem dX3_readsCondition_1 : decode cX3_readsCondition 1 = .ok (.istore_n 2, 1) := by decide +kernel
theorem dX3_readsCondition_2 : decode cX3_readsCondition 2 = .ok (.iconst 0, 1) := by decide +kernel
theorem dX3_readsCondition_3 : decode cX3_readsCondition 3 = .ok (.istore_n 3, 1) := by decide +kernel
theorem dX3_readsCondition_4 : decode cX3_readsCondition 4 = .ok (.iconst 0, 1) := by decide +kernel
theorem dX3_readsCondition_5 : decode cX3_readsCondition 5 = .ok (.istore 4, 2) := by decide +kernel
theorem dX3_readsCondition_7 : decode cX3_readsCondition 7 = .ok (.iload 4, 2) := by decide +kernel
theorem dX3_readsCondition_9 : decode cX3_readsCondition 9 = .ok (.sipush 400, 3) := by decide +kernel
theorem dX3_readsCondition_12 : decode cX3_readsCondition 12 = .ok (.if_icmp .ge 77, 3) := by decide +kernel
theorem dX3_readsCondition_15 : decode cX3_readsCondition 15 = .ok (.aload_n 0, 1) := by decide +kernel
theorem dX3_readsCondition_16 : decode cX3_readsCondition 16 = .ok (.iload_n 1, 1) := by decide +kernel
theorem dX3_readsCondition_17 : decode cX3_readsCondition 17 = .ok (.invokevirtual 54, 3) := by decide +kernel
theorem dX3_readsCondition_20 : decode cX3_readsCondition 20 = .ok (.ifCond .ne 5, 3) := by decide +kernel
theorem dX3_readsCondition_23 : decode cX3_readsCondition 23 = .ok (.iconst 0, 1) := by decide +kernel
theorem dX3_readsCondition_24 : decode cX3_readsCondition 24 = .ok (.ireturn, 1) := by decide +kernel
theorem dX3_readsCondition_25 : decode cX3_readsCondition 25 = .ok (.iload_n 2, 1) := by decide +kernel
theorem dX3_readsCondition_26 : decode cX3_readsCondition 26 = .ok (.ifCond .eq 13, 3) := by decide +kernel
theorem dX3_readsCondition_29 : decode cX3_readsCondition 29 = .ok (.aload_n 0, 1) := by decide +kernel
theorem dX3_readsCondition_30 : decode cX3_readsCondition 30 = .ok (.getfield 14, 3) := by decide +kernel
theorem dX3_readsCondition_33 : decode cX3_readsCondition 33 = .ok (.sipush 1012, 3) := by decide +kernel
theorem dX3_readsCondition_36 : decode cX3_readsCondition 36 = .ok (.invokevirtual 57, 3) := by decide +kernel
theorem dX3_readsCondition_39 : decode cX3_readsCondition 39 = .ok (.aload_n 0, 1) := by decide +kernel
theorem dX3_readsCondition_40 : decode cX3_readsCondition 40 = .ok (.getfield 20, 3) := by decide +kernel
theorem dX3_readsCondition_43 : decode cX3_readsCondition 43 = .ok (.ldc 61, 2) := by decide +kernel
theorem dX3_readsCondition_45 : decode cX3_readsCondition 45 = .ok (.invokevirtual 43, 3) := by decide +kernel
theorem dX3_readsCondition_48 : decode cX3_readsCondition 48 = .ok (.istore_n 2, 1) := by decide +kernel
theorem dX3_readsCondition_49 : decode cX3_readsCondition 49 = .ok (.iload_n 2, 1) := by decide +kernel
theorem dX3_readsCondition_50 : decode cX3_readsCondition 50 = .ok (.ifCond .ne 33, 3) := by decide +kernel
theorem dX3_readsCondition_53 : decode cX3_readsCondition 53 = .ok (.iload_n 3, 1) := by decide +kernel
theorem dX3_readsCondition_54 : decode cX3_readsCondition 54 = .ok (.ifCond .eq 13, 3) := by decide +kernel
theorem dX3_readsCondition_57 : decode cX3_readsCondition 57 = .ok (.aload_n 0, 1) := by decide +kernel
theorem dX3_readsCondition_58 : decode cX3_readsCondition 58 = .ok (.getfield 14, 3) := by decide +kernel
theorem dX3_readsCondition_61 : decode cX3_readsCondition 61 = .ok (.sipush 1013, 3) := by decide +kernel
theorem dX3_readsCondition_64 : decode cX3_readsCondition 64 = .ok (.invokevirtual 57, 3) := by decide +kernel
theorem dX3_readsCondition_67 : decode cX3_readsCondition 67 = .ok (.aload_n 0, 1) := by decide +kernel
theorem dX3_readsCondition_68 : decode cX3_readsCondition 68 = .ok (.getfield 20, 3) := by decide +kernel
theorem dX3_readsCondition_71 : decode cX3_readsCondition 71 = .ok (.ldc 63, 2) := by decide +kernel
theorem dX3_readsCondition_73 : decode cX3_readsCondition 73 = .ok (.invokevirtual 43, 3) := by decide +kernel
theorem dX3_readsCondition_76 : decode cX3_readsCondition 76 = .ok (.istore_n 3, 1) := by decide +kernel
theorem dX3_readsCondition_77 : decode cX3_readsCondition 77 = .ok (.iload_n 3, 1) := by decide +kernel
theorem dX3_readsCondition_78 : decode cX3_readsCondition 78 = .ok (.ifCond .ne 5, 3) := by decide +kernel
theorem dX3_readsCondition_81 : decode cX3_readsCondition 81 = .ok (.iconst 1, 1) := by decide +kernel
theorem dX3_readsCondition_82 : decode cX3_readsCondition 82 = .ok (.ireturn, 1) := by decide +kernel
theorem dX3_readsCondition_83 : decode cX3_readsCondition 83 = .ok (.iinc 4 1, 3) := by decide +kernel
theorem dX3_readsCondition_86 : decode cX3_readsCondition 86 = .ok (.goto (-79), 3) := by decide +kernel
theorem dX3_readsCondition_89 : decode cX3_readsCondition 89 = .ok (.iconst 0, 1) := by decide +kernel
theorem dX3_readsCondition_90 : decode cX3_readsCondition 90 = .ok (.ireturn, 1) := by decide +kernel
theorem dX3_readsAtom_0 : decode cX3_readsAtom 0 = .ok (.aload_n 0, 1) := by decide +kernel
theorem dX3_readsAtom_1 : decode cX3_readsAtom 1 = .ok (.getfield 20, 3) := by decide +kernel
theorem dX3_readsAtom_4 : decode cX3_readsAtom 4 = .ok (.ldc 65, 2) := by decide +kernel
theorem dX3_readsAtom_6 : decode cX3_readsAtom 6 = .ok (.invokevirtual 26, 3) := by decide +kernel
theorem dX3_readsAtom_9 : decode cX3_readsAtom 9 = .ok (.istore_n 2, 1) := by decide +kernel
theorem dX3_readsAtom_10 : decode cX3_readsAtom 10 = .ok (.iload_n 2, 1) := by decide +kernel
theorem dX3_readsAtom_11 : decode cX3_readsAtom 11 = .ok (.ifCond .ne 15, 3) := by decide +kernel
theorem dX3_readsAtom_14 : decode cX3_readsAtom 14 = .ok (.aload_n 0, 1) := by decide +kernel
theorem dX3_readsAtom_15 : decode cX3_readsAtom 15 = .ok (.getfield 20, 3) := by decide +kernel
theorem dX3_readsAtom_18 : decode cX3_readsAtom 18 = .ok (.bipush 40, 2) := by decide +kernel
theorem dX3_readsAtom_20 : decode cX3_readsAtom 20 = .ok (.invokevirtual 67, 3) := by decide +kernel
theorem dX3_readsAtom_23 : decode cX3_readsAtom 23 = .ok (.ifCond .eq 26, 3) := by decide +kernel
theorem dX3_readsAtom_26 : decode cX3_readsAtom 26 = .ok (.iload_n 1, 1) := by decide +kernel
theorem dX3_readsAtom_27 : decode cX3_readsAtom 27 = .ok (.bipush 6, 2) := by decide +kernel
theorem dX3_readsAtom_29 : decode cX3_readsAtom 29 = .ok (.if_icmp .ge 18, 3) := by decide +kernel
theorem dX3_readsAtom_32 : decode cX3_readsAtom 32 = .ok (.aload_n 0, 1) := by decide +kernel
theorem dX3_readsAtom_33 : decode cX3_readsAtom 33 = .ok (.iload_n 2, 1) := by decide +kernel
theorem dX3_readsAtom_34 : decode cX3_readsAtom 34 = .ok (.iload_n 1, 1) := by decide +kernel
theorem dX3_readsAtom_35 : decode cX3_readsAtom 35 = .ok (.iconst 1, 1) := by decide +kernel
theorem dX3_readsAtom_36 : decode cX3_readsAtom 36 = .ok (.iadd, 1) := by decide +kernel
theorem dX3_readsAtom_37 : decode cX3_readsAtom 37 = .ok (.invokevirtual 71, 3) := by decide +kernel
theorem dX3_readsAtom_40 : decode cX3_readsAtom 40 = .ok (.ifCond .eq 7, 3) := by decide +kernel
theorem dX3_readsAtom_43 : decode cX3_readsAtom 43 = .ok (.iconst 1, 1) := by decide +kernel
theorem dX3_readsAtom_44 : decode cX3_readsAtom 44 = .ok (.goto 4, 3) := by decide +kernel
theorem dX3_readsAtom_47 : decode cX3_readsAtom 47 = .ok (.iconst 0, 1) := by decide +kernel
theorem dX3_readsAtom_48 : decode cX3_readsAtom 48 = .ok (.ireturn, 1) := by decide +kernel
theorem dX3_readsAtom_49 : decode cX3_readsAtom 49 = .ok (.aload_n 0, 1) := by decide +kernel
theorem dX3_readsAtom_50 : decode cX3_readsAtom 50 = .ok (.invokevirtual 75, 3) := by decide +kernel
theorem dX3_readsAtom_53 : decode cX3_readsAtom 53 = .ok (.istore_n 3, 1) := by decide +kernel
theorem dX3_readsAtom_54 : decode cX3_readsAtom 54 = .ok (.iload_n 3, 1) := by decide +kernel
theorem dX3_readsAtom_55 : decode cX3_readsAtom 55 = .ok (.iconst (-1), 1) := by decide +kernel
theorem dX3_readsAtom_56 : decode cX3_readsAtom 56 = .ok (.if_icmp .eq 24, 3) := by decide +kernel
theorem dX3_readsAtom_59 : decode cX3_readsAtom 59 = .ok (.aload_n 0, 1) := by decide +kernel
theorem dX3_readsAtom_60 : decode cX3_readsAtom 60 = .ok (.getfield 14, 3) := by decide +kernel
theorem dX3_readsAtom_63 : decode cX3_readsAtom 63 = .ok (.sipush 1000, 3) := by decide +kernel
theorem dX3_readsAtom_66 : decode cX3_readsAtom 66 = .ok (.iload_n 3, 1) := by decide +kernel
theorem dX3_readsAtom_67 : decode cX3_readsAtom 67 = .ok (.iadd, 1) := by decide +kernel
theorem dX3_readsAtom_68 : decode cX3_readsAtom 68 = .ok (.invokevirtual 57, 3) := by decide +kernel
theorem dX3_readsAtom_71 : decode cX3_readsAtom 71 = .ok (.aload_n 0, 1) := by decide +kernel
theorem dX3_readsAtom_72 : decode cX3_readsAtom 72 = .ok (.getfield 20, 3) := by decide +kernel
theorem dX3_readsAtom_75 : decode cX3_readsAtom 75 = .ok (.invokevirtual 34, 3) := by decide +kernel
theorem dX3_readsAtom_78 : decode cX3_readsAtom 78 = .ok (.iconst 1, 1) := by decide +kernel
theorem dX3_readsAtom_79 : decode cX3_readsAtom 79 = .ok (.ireturn, 1) := by decide +kernel
theorem dX3_readsAtom_80 : decode cX3_readsAtom 80 = .ok (.aload_n 0, 1) := by decide +kernel
theorem dX3_readsAtom_81 : decode cX3_readsAtom 81 = .ok (.invokevirtual 79, 3) := by decide +kernel
theorem dX3_readsAtom_84 : decode cX3_readsAtom 84 = .ok (.ifCond .ne 5, 3) := by decide +kernel
theorem dX3_readsAtom_87 : decode cX3_readsAtom 87 = .ok (.iconst 0, 1) := by decide +kernel
theorem dX3_readsAtom_88 : decode cX3_readsAtom 88 = .ok (.ireturn, 1) := by decide +kernel
theorem dX3_readsAtom_89 : decode cX3_readsAtom 89 = .ok (.aload_n 0, 1) := by decide +kernel
theorem dX3_readsAtom_90 : decode cX3_readsAtom 90 = .ok (.getfield 20, 3) := by decide +kernel
theorem dX3_readsAtom_93 : decode cX3_readsAtom 93 = .ok (.bipush 60, 2) := by decide +kernel
theorem dX3_readsAtom_95 : decode cX3_readsAtom 95 = .ok (.invokevirtual 67, 3) := by decide +kernel
theorem dX3_readsAtom_98 : decode cX3_readsAtom 98 = .ok (.istore 4, 2) := by decide +kernel
theorem dX3_readsAtom_100 : decode cX3_readsAtom 100 = .ok (.iload 4, 2) := by decide +kernel
theorem dX3_readsAtom_102 : decode cX3_readsAtom 102 = .ok (.ifCond .ne 17, 3) := by decide +kernel
theorem dX3_readsAtom_105 : decode cX3_readsAtom 105 = .ok (.aload_n 0, 1) := by decide +kernel
theorem dX3_readsAtom_106 : decode cX3_readsAtom 106 = .ok (.getfield 20, 3) := by decide +kernel
theorem dX3_readsAtom_109 : decode cX3_readsAtom 109 = .ok (.bipush 62, 2) := by decide +kernel
theorem dX3_readsAtom_111 : decode cX3_readsAtom 111 = .ok (.invokevirtual 67, 3) := by decide +kernel
theorem dX3_readsAtom_114 : decode cX3_readsAtom 114 = .ok (.ifCond .ne 5, 3) := by decide +kernel
theorem dX3_readsAtom_117 : decode cX3_readsAtom 117 = .ok (.iconst 0, 1) := by decide +kernel
theorem dX3_readsAtom_118 : decode cX3_readsAtom 118 = .ok (.ireturn, 1) := by decide +kernel
theorem dX3_readsAtom_119 : decode cX3_readsAtom 119 = .ok (.aload_n 0, 1) := by decide +kernel
theorem dX3_readsAtom_120 : decode cX3_readsAtom 120 = .ok (.getfield 20, 3) := by decide +kernel
theorem dX3_readsAtom_123 : decode cX3_readsAtom 123 = .ok (.invokevirtual 34, 3) := by decide +kernel
theorem dX3_readsAtom_126 : decode cX3_readsAtom 126 = .ok (.aload_n 0, 1) := by decide +kernel
theorem dX3_readsAtom_127 : decode cX3_readsAtom 127 = .ok (.invokevirtual 79, 3) := by decide +kernel
theorem dX3_readsAtom_130 : decode cX3_readsAtom 130 = .ok (.ifCond .ne 5, 3) := by decide +kernel
theorem dX3_readsAtom_133 : decode cX3_readsAtom 133 = .ok (.iconst 0, 1) := by decide +kernel
theorem dX3_readsAtom_134 : decode cX3_readsAtom 134 = .ok (.ireturn, 1) := by decide +kernel
theorem dX3_readsAtom_135 : decode cX3_readsAtom 135 = .ok (.aload_n 0, 1) := by decide +kernel
theorem dX3_readsAtom_136 : decode cX3_readsAtom 136 = .ok (.getfield 14, 3) := by decide +kernel
theorem dX3_readsAtom_139 : decode cX3_readsAtom 139 = .ok (.iload 4, 2) := by decide +kernel
theorem dX3_readsAtom_141 : decode cX3_readsAtom 141 = .ok (.ifCond .eq 9, 3) := by decide +kernel
theorem dX3_readsAtom_144 : decode cX3_readsAtom 144 = .ok (.sipush 1010, 3) := by decide +kernel
theorem dX3_readsAtom_147 : decode cX3_readsAtom 147 = .ok (.goto 6, 3) := by decide +kernel
theorem dX3_readsAtom_150 : decode cX3_readsAtom 150 = .ok (.sipush 1011, 3) := by decide +kernel
theorem dX3_readsAtom_153 : decode cX3_readsAtom 153 = .ok (.invokevirtual 57, 3) := by decide +kernel
theorem dX3_readsAtom_156 : decode cX3_readsAtom 156 = .ok (.iconst 1, 1) := by decide +kernel
theorem dX3_readsAtom_157 : decode cX3_readsAtom 157 = .ok (.ireturn, 1) := by decide +kernel
theorem dX3_readsDeeper_0 : decode cX3_readsDeeper 0 = .ok (.aload_n 0, 1) := by decide +kernel
theorem dX3_readsDeeper_1 : decode cX3_readsDeeper 1 = .ok (.getfield 20, 3) := by decide +kernel
theorem dX3_readsDeeper_4 : decode cX3_readsDeeper 4 = .ok (.invokevirtual 34, 3) := by decide +kernel
theorem dX3_readsDeeper_7 : decode cX3_readsDeeper 7 = .ok (.iload_n 1, 1) := by decide +kernel
theorem dX3_readsDeeper_8 : decode cX3_readsDeeper 8 = .ok (.ifCond .eq 21, 3) := by decide +kernel
theorem dX3_readsDeeper_11 : decode cX3_readsDeeper 11 = .ok (.aload_n 0, 1) := by decide +kernel
theorem dX3_readsDeeper_12 : decode cX3_readsDeeper 12 = .ok (.iload_n 2, 1) := by decide +kernel
theorem dX3_readsDeeper_13 : decode cX3_readsDeeper 13 = .ok (.invokevirtual 54, 3) := by decide +kernel
theorem dX3_readsDeeper_16 : decode cX3_readsDeeper 16 = .ok (.istore_n 3, 1) := by decide +kernel
theorem dX3_readsDeeper_17 : decode cX3_readsDeeper 17 = .ok (.aload_n 0, 1) := by decide +kernel
theorem dX3_readsDeeper_18 : decode cX3_readsDeeper 18 = .ok (.getfield 14, 3) := by decide +kernel
theorem dX3_readsDeeper_21 : decode cX3_readsDeeper 21 = .ok (.sipush 1014, 3) := by decide +kernel
theorem dX3_readsDeeper_24 : decode cX3_readsDeeper 24 = .ok (.invokevirtual 57, 3) := by decide +kernel
theorem dX3_readsDeeper_27 : decode cX3_readsDeeper 27 = .ok (.iload_n 3, 1) := by decide +kernel
theorem dX3_readsDeeper_28 : decode cX3_readsDeeper 28 = .ok (.ireturn, 1) := by decide +kernel
theorem dX3_readsDeeper_29 : decode cX3_readsDeeper 29 = .ok (.aload_n 0, 1) := by decide +kernel
theorem dX3_readsDeeper_30 : decode cX3_readsDeeper 30 = .ok (.iload_n 2, 1) := by decide +kernel
theorem dX3_readsDeeper_31 : decode cX3_readsDeeper 31 = .ok (.invokevirtual 46, 3) := by decide +kernel
theorem dX3_readsDeeper_34 : decode cX3_readsDeeper 34 = .ok (.ifCond .eq 15, 3) := by decide +kernel
theorem dX3_readsDeeper_37 : decode cX3_readsDeeper 37 = .ok (.aload_n 0, 1) := by decide +kernel
theorem dX3_readsDeeper_38 : decode cX3_readsDeeper 38 = .ok (.getfield 20, 3) := by decide +kernel
theorem dX3_readsDeeper_41 : decode cX3_readsDeeper 41 = .ok (.bipush 41, 2) := by decide +kernel
theorem dX3_readsDeeper_43 : decode cX3_readsDeeper 43 = .ok (.invokevirtual 67, 3) := by decide +kernel
theorem dX3_readsDeeper_46 : decode cX3_readsDeeper 46 = .ok (.ifCond .ne 5, 3) := by decide +kernel
theorem dX3_readsDeeper_49 : decode cX3_readsDeeper 49 = .ok (.iconst 0, 1) := by decide +kernel
theorem dX3_readsDeeper_50 : decode cX3_readsDeeper 50 = .ok (.ireturn, 1) := by decide +kernel
theorem dX3_readsDeeper_51 : decode cX3_readsDeeper 51 = .ok (.aload_n 0, 1) := by decide +kernel
theorem dX3_readsDeeper_52 : decode cX3_readsDeeper 52 = .ok (.getfield 20, 3) := by decide +kernel
theorem dX3_readsDeeper_55 : decode cX3_readsDeeper 55 = .ok (.invokevirtual 34, 3) := by decide +kernel
theorem dX3_readsDeeper_58 : decode cX3_readsDeeper 58 = .ok (.iconst 1, 1) := by decide +kernel
theorem dX3_readsDeeper_59 : decode cX3_readsDeeper 59 = .ok (.ireturn, 1) := by decide +kernel
theorem dX3_sortHere_0 : decode cX3_sortHere 0 = .ok (.aload_n 0, 1) := by decide +kernel
theorem dX3_sortHere_1 : decode cX3_sortHere 1 = .ok (.getfield 20, 3) := by decide +kernel
theorem dX3_sortHere_4 : decode cX3_sortHere 4 = .ok (.ldc 83, 2) := by decide +kernel
theorem dX3_sortHere_6 : decode cX3_sortHere 6 = .ok (.invokevirtual 26, 3) := by decide +kernel
theorem dX3_sortHere_9 : decode cX3_sortHere 9 = .ok (.ifCond .eq 6, 3) := by decide +kernel
theorem dX3_sortHere_12 : decode cX3_sortHere 12 = .ok (.bipush 6, 2) := by decide +kernel
theorem dX3_sortHere_14 : decode cX3_sortHere 14 = .ok (.ireturn, 1) := by decide +kernel
theorem dX3_sortHere_15 : decode cX3_sortHere 15 = .ok (.aload_n 0, 1) := by decide +kernel
theorem dX3_sortHere_16 : decode cX3_sortHere 16 = .ok (.getfield 20, 3) := by decide +kernel
theorem dX3_sortHere_19 : decode cX3_sortHere 19 = .ok (.ldc 85, 2) := by decide +kernel
theorem dX3_sortHere_21 : decode cX3_sortHere 21 = .ok (.invokevirtual 26, 3) := by decide +kernel
theorem dX3_sortHere_24 : decode cX3_sortHere 24 = .ok (.ifCond .eq 6, 3) := by decide +kernel
theorem dX3_sortHere_27 : decode cX3_sortHere 27 = .ok (.bipush 7, 2) := by decide +kernel
theorem dX3_sortHere_29 : decode cX3_sortHere 29 = .ok (.ireturn, 1) := by decide +kernel
theorem dX3_sortHere_30 : decode cX3_sortHere 30 = .ok (.aload_n 0, 1) := by decide +kernel
theorem dX3_sortHere_31 : decode cX3_sortHere 31 = .ok (.getfield 20, 3) := by decide +kernel
theorem dX3_sortHere_34 : decode cX3_sortHere 34 = .ok (.ldc 87, 2) := by decide +kernel
theorem dX3_sortHere_36 : decode cX3_sortHere 36 = .ok (.invokevirtual 26, 3) := by decide +kernel
theorem dX3_sortHere_39 : decode cX3_sortHere 39 = .ok (.ifCond .eq 8, 3) := by decide +kernel
theorem dX3_sortHere_42 : decode cX3_sortHere 42 = .ok (.bipush 8, 2) := by decide +kernel
theorem dX3_sortHere_44 : decode cX3_sortHere 44 = .ok (.goto 4, 3) := by decide +kernel
theorem dX3_sortHere_47 : decode cX3_sortHere 47 = .ok (.iconst (-1), 1) := by decide +kernel
theorem dX3_sortHere_48 : decode cX3_sortHere 48 = .ok (.ireturn, 1) := by decide +kernel
theorem dX3_readsSum_0 : decode cX3_readsSum 0 = .ok (.iconst 0, 1) := by decide +kernel
theorem dX3_readsSum_1 : decode cX3_readsSum 1 = .ok (.istore_n 1, 1) := by decide +kernel
theorem dX3_readsSum_2 : decode cX3_readsSum 2 = .ok (.iload_n 1, 1) := by decide +kernel
theorem dX3_readsSum_3 : decode cX3_readsSum 3 = .ok (.sipush 400, 3) := by decide +kernel
theorem dX3_readsSum_6 : decode cX3_readsSum 6 = .ok (.if_icmp .ge 71, 3) := by decide +kernel
theorem dX3_readsSum_9 : decode cX3_readsSum 9 = .ok (.aload_n 0, 1) := by decide +kernel
theorem dX3_readsSum_10 : decode cX3_readsSum 10 = .ok (.invokevirtual 89, 3) := by decide +kernel
theorem dX3_readsSum_13 : decode cX3_readsSum 13 = .ok (.istore_n 2, 1) := by decide +kernel
theorem dX3_readsSum_14 : decode cX3_readsSum 14 = .ok (.iload_n 2, 1) := by decide +kernel
theorem dX3_readsSum_15 : decode cX3_readsSum 15 = .ok (.iconst (-1), 1) := by decide +kernel
theorem dX3_readsSum_16 : decode cX3_readsSum 16 = .ok (.if_icmp .ne 5, 3) := by decide +kernel
theorem dX3_readsSum_19 : decode cX3_readsSum 19 = .ok (.iconst 0, 1) := by decide +kernel
theorem dX3_readsSum_20 : decode cX3_readsSum 20 = .ok (.ireturn, 1) := by decide +kernel
theorem dX3_readsSum_21 : decode cX3_readsSum 21 = .ok (.aload_n 0, 1) := by decide +kernel
theorem dX3_readsSum_22 : decode cX3_readsSum 22 = .ok (.getfield 14, 3) := by decide +kernel
theorem dX3_readsSum_25 : decode cX3_readsSum 25 = .ok (.iload_n 2, 1) := by decide +kernel
theorem dX3_readsSum_26 : decode cX3_readsSum 26 = .ok (.invokevirtual 57, 3) := by decide +kernel
theorem dX3_readsSum_29 : decode cX3_readsSum 29 = .ok (.iload_n 1, 1) := by decide +kernel
theorem dX3_readsSum_30 : decode cX3_readsSum 30 = .ok (.ifCond .le 13, 3) := by decide +kernel
theorem dX3_readsSum_33 : decode cX3_readsSum 33 = .ok (.aload_n 0, 1) := by decide +kernel
theorem dX3_readsSum_34 : decode cX3_readsSum 34 = .ok (.getfield 14, 3) := by decide +kernel
theorem dX3_readsSum_37 : decode cX3_readsSum 37 = .ok (.sipush 1009, 3) := by decide +kernel
theorem dX3_readsSum_40 : decode cX3_readsSum 40 = .ok (.invokevirtual 57, 3) := by decide +kernel
theorem dX3_readsSum_43 : decode cX3_readsSum 43 = .ok (.aload_n 0, 1) := by decide +kernel
theorem dX3_readsSum_44 : decode cX3_readsSum 44 = .ok (.getfield 20, 3) := by decide +kernel
theorem dX3_readsSum_47 : decode cX3_readsSum 47 = .ok (.invokevirtual 34, 3) := by decide +kernel
theorem dX3_readsSum_50 : decode cX3_readsSum 50 = .ok (.aload_n 0, 1) := by decide +kernel
theorem dX3_readsSum_51 : decode cX3_readsSum 51 = .ok (.getfield 20, 3) := by decide +kernel
theorem dX3_readsSum_54 : decode cX3_readsSum 54 = .ok (.bipush 43, 2) := by decide +kernel
theorem dX3_readsSum_56 : decode cX3_readsSum 56 = .ok (.invokevirtual 67, 3) := by decide +kernel
theorem dX3_readsSum_59 : decode cX3_readsSum 59 = .ok (.ifCond .ne 5, 3) := by decide +kernel
theorem dX3_readsSum_62 : decode cX3_readsSum 62 = .ok (.iconst 1, 1) := by decide +kernel
theorem dX3_readsSum_63 : decode cX3_readsSum 63 = .ok (.ireturn, 1) := by decide +kernel
theorem dX3_readsSum_64 : decode cX3_readsSum 64 = .ok (.aload_n 0, 1) := by decide +kernel
theorem dX3_readsSum_65 : decode cX3_readsSum 65 = .ok (.getfield 20, 3) := by decide +kernel
theorem dX3_readsSum_68 : decode cX3_readsSum 68 = .ok (.invokevirtual 34, 3) := by decide +kernel
theorem dX3_readsSum_71 : decode cX3_readsSum 71 = .ok (.iinc 1 1, 3) := by decide +kernel
theorem dX3_readsSum_74 : decode cX3_readsSum 74 = .ok (.goto (-72), 3) := by decide +kernel
theorem dX3_readsSum_77 : decode cX3_readsSum 77 = .ok (.iconst 0, 1) := by decide +kernel
theorem dX3_readsSum_78 : decode cX3_readsSum 78 = .ok (.ireturn, 1) := by decide +kernel
theorem dX3_partHere_0 : decode cX3_partHere 0 = .ok (.aload_n 0, 1) := by decide +kernel
theorem dX3_partHere_1 : decode cX3_partHere 1 = .ok (.getfield 20, 3) := by decide +kernel
theorem dX3_partHere_4 : decode cX3_partHere 4 = .ok (.ldc 92, 2) := by decide +kernel
theorem dX3_partHere_6 : decode cX3_partHere 6 = .ok (.invokevirtual 26, 3) := by decide +kernel
theorem dX3_partHere_9 : decode cX3_partHere 9 = .ok (.ifCond .eq 7, 3) := by decide +kernel
theorem dX3_partHere_12 : decode cX3_partHere 12 = .ok (.sipush 1000, 3) := by decide +kernel
theorem dX3_partHere_15 : decode cX3_partHere 15 = .ok (.ireturn, 1) := by decide +kernel
theorem dX3_partHere_16 : decode cX3_partHere 16 = .ok (.aload_n 0, 1) := by decide +kernel
theorem dX3_partHere_17 : decode cX3_partHere 17 = .ok (.getfield 20, 3) := by decide +kernel
theorem dX3_partHere_20 : decode cX3_partHere 20 = .ok (.ldc 94, 2) := by decide +kernel
theorem dX3_partHere_22 : decode cX3_partHere 22 = .ok (.invokevirtual 26, 3) := by decide +kernel
theorem dX3_partHere_25 : decode cX3_partHere 25 = .ok (.ifCond .eq 7, 3) := by decide +kernel
theorem dX3_partHere_28 : decode cX3_partHere 28 = .ok (.sipush 1001, 3) := by decide +kernel
theorem dX3_partHere_31 : decode cX3_partHere 31 = .ok (.ireturn, 1) := by decide +kernel
theorem dX3_partHere_32 : decode cX3_partHere 32 = .ok (.aload_n 0, 1) := by decide +kernel
theorem dX3_partHere_33 : decode cX3_partHere 33 = .ok (.getfield 20, 3) := by decide +kernel
theorem dX3_partHere_36 : decode cX3_partHere 36 = .ok (.ldc 96, 2) := by decide +kernel
theorem dX3_partHere_38 : decode cX3_partHere 38 = .ok (.invokevirtual 26, 3) := by decide +kernel
theorem dX3_partHere_41 : decode cX3_partHere 41 = .ok (.ifCond .eq 7, 3) := by decide +kernel
theorem dX3_partHere_44 : decode cX3_partHere 44 = .ok (.sipush 1002, 3) := by decide +kernel
theorem dX3_partHere_47 : decode cX3_partHere 47 = .ok (.ireturn, 1) := by decide +kernel
theorem dX3_partHere_48 : decode cX3_partHere 48 = .ok (.aload_n 0, 1) := by decide +kernel
theorem dX3_partHere_49 : decode cX3_partHere 49 = .ok (.getfield 20, 3) := by decide +kernel
theorem dX3_partHere_52 : decode cX3_partHere 52 = .ok (.ldc 98, 2) := by decide +kernel
theorem dX3_partHere_54 : decode cX3_partHere 54 = .ok (.invokevirtual 26, 3) := by decide +kernel
theorem dX3_partHere_57 : decode cX3_partHere 57 = .ok (.ifCond .eq 7, 3) := by decide +kernel
theorem dX3_partHere_60 : decode cX3_partHere 60 = .ok (.sipush 1003, 3) := by decide +kernel
theorem dX3_partHere_63 : decode cX3_partHere 63 = .ok (.ireturn, 1) := by decide +kernel
theorem dX3_partHere_64 : decode cX3_partHere 64 = .ok (.aload_n 0, 1) := by decide +kernel
theorem dX3_partHere_65 : decode cX3_partHere 65 = .ok (.getfield 20, 3) := by decide +kernel
theorem dX3_partHere_68 : decode cX3_partHere 68 = .ok (.ldc 100, 2) := by decide +kernel
theorem dX3_partHere_70 : decode cX3_partHere 70 = .ok (.invokevirtual 26, 3) := by decide +kernel
theorem dX3_partHere_73 : decode cX3_partHere 73 = .ok (.ifCond .eq 7, 3) := by decide +kernel
theorem dX3_partHere_76 : decode cX3_partHere 76 = .ok (.sipush 1004, 3) := by decide +kernel
theorem dX3_partHere_79 : decode cX3_partHere 79 = .ok (.ireturn, 1) := by decide +kernel
theorem dX3_partHere_80 : decode cX3_partHere 80 = .ok (.aload_n 0, 1) := by decide +kernel
theorem dX3_partHere_81 : decode cX3_partHere 81 = .ok (.getfield 20, 3) := by decide +kernel
theorem dX3_partHere_84 : decode cX3_partHere 84 = .ok (.ldc 102, 2) := by decide +kernel
theorem dX3_partHere_86 : decode cX3_partHere 86 = .ok (.invokevirtual 26, 3) := by decide +kernel
theorem dX3_partHere_89 : decode cX3_partHere 89 = .ok (.ifCond .eq 7, 3) := by decide +kernel
theorem dX3_partHere_92 : decode cX3_partHere 92 = .ok (.sipush 1005, 3) := by decide +kernel
theorem dX3_partHere_95 : decode cX3_partHere 95 = .ok (.ireturn, 1) := by decide +kernel
theorem dX3_partHere_96 : decode cX3_partHere 96 = .ok (.aload_n 0, 1) := by decide +kernel
theorem dX3_partHere_97 : decode cX3_partHere 97 = .ok (.getfield 20, 3) := by decide +kernel
theorem dX3_partHere_100 : decode cX3_partHere 100 = .ok (.iconst 0, 1) := by decide +kernel
theorem dX3_partHere_101 : decode cX3_partHere 101 = .ok (.sipush 999, 3) := by decide +kernel
theorem dX3_partHere_104 : decode cX3_partHere 104 = .ok (.invokevirtual 104, 3) := by decide +kernel
theorem dX3_partHere_107 : decode cX3_partHere 107 = .ok (.ireturn, 1) := by decide +kernel
theorem dX4_init_0 : decode cX4_init 0 = .ok (.aload_n 0, 1) := by decide +kernel
theorem dX4_init_1 : decode cX4_init 1 = .ok (.invokespecial 3, 3) := by decide +kernel
theorem dX4_init_4 : decode cX4_init 4 = .ok (.aload_n 0, 1) := by decide +kernel
theorem dX4_init_5 : decode cX4_init 5 = .ok (.aload_n 1, 1) := by decide +kernel
theorem dX4_init_6 : decode cX4_init 6 = .ok (.putfield 9, 3) := by decide +kernel
theorem dX4_init_9 : decode cX4_init 9 = .ok (.aload_n 0, 1) := by decide +kernel
theorem dX4_init_10 : decode cX4_init 10 = .ok (.aload_n 2, 1) := by decide +kernel
theorem dX4_init_11 : decode cX4_init 11 = .ok (.putfield 15, 3) := by decide +kernel
theorem dX4_init_14 : decode cX4_init 14 = .ok (.aload_n 0, 1) := by decide +kernel
theorem dX4_init_15 : decode cX4_init 15 = .ok (.sipush 1862, 3) := by decide +kernel
theorem dX4_init_18 : decode cX4_init 18 = .ok (.newarray .int, 2) := by decide +kernel
theorem dX4_init_20 : decode cX4_init 20 = .ok (.putfield 19, 3) := by decide +kernel
theorem dX4_init_23 : decode cX4_init 23 = .ok (.aload_n 0, 1) := by decide +kernel
theorem dX4_init_24 : decode cX4_init 24 = .ok (.bipush 31, 2) := by decide +kernel
theorem dX4_init_26 : decode cX4_init 26 = .ok (.newarray .int, 2) := by decide +kernel
theorem dX4_init_28 : decode cX4_init 28 = .ok (.putfield 23, 3) := by decide +kernel
theorem dX4_init_31 : decode cX4_init 31 = .ok (.return_, 1) := by decide +kernel
theorem dX4_leastOff_0 : decode cX4_leastOff 0 = .ok (.aload_n 0, 1) := by decide +kernel
theorem dX4_leastOff_1 : decode cX4_leastOff 1 = .ok (.getfield 9, 3) := by decide +kernel
theorem dX4_leastOff_4 : decode cX4_leastOff 4 = .ok (.invokevirtual 26, 3) := by decide +kernel
theorem dX4_leastOff_7 : decode cX4_leastOff 7 = .ok (.istore_n 3, 1) := by decide +kernel
theorem dX4_leastOff_8 : decode cX4_leastOff 8 = .ok (.aload_n 0, 1) := by decide +kernel
theorem dX4_leastOff_9 : decode cX4_leastOff 9 = .ok (.iload_n 1, 1) := by decide +kernel
theorem dX4_leastOff_10 : decode cX4_leastOff 10 = .ok (.putfield 32, 3) := by decide +kernel
theorem dX4_leastOff_13 : decode cX4_leastOff 13 = .ok (.aload_n 0, 1) := by decide +kernel
theorem dX4_leastOff_14 : decode cX4_leastOff 14 = .ok (.aload_n 0, 1) := by decide +kernel
theorem dX4_leastOff_15 : decode cX4_leastOff 15 = .ok (.getfield 15, 3) := by decide +kernel
theorem dX4_leastOff_18 : decode cX4_leastOff 18 = .ok (.iload_n 2, 1) := by decide +kernel
theorem dX4_leastOff_19 : decode cX4_leastOff 19 = .ok (.invokevirtual 36, 3) := by decide +kernel
theorem dX4_leastOff_22 : decode cX4_leastOff 22 = .ok (.putfield 42, 3) := by decide +kernel
theorem dX4_leastOff_25 : decode cX4_leastOff 25 = .ok (.aload_n 0, 1) := by decide +kernel
theorem dX4_leastOff_26 : decode cX4_leastOff 26 = .ok (.getfield 9, 3) := by decide +kernel
theorem dX4_leastOff_29 : decode cX4_leastOff 29 = .ok (.getfield 45, 3) := by decide +kernel
theorem dX4_leastOff_32 : decode cX4_leastOff 32 = .ok (.ifCond .eq 31, 3) := by decide +kernel
theorem dX4_leastOff_35 : decode cX4_leastOff 35 = .ok (.aload_n 0, 1) := by decide +kernel
theorem dX4_leastOff_36 : decode cX4_leastOff 36 = .ok (.getfield 42, 3) := by decide +kernel
theorem dX4_leastOff_39 : decode cX4_leastOff 39 = .ok (.ifCond .lt 24, 3) := by decide +kernel
theorem dX4_leastOff_42 : decode cX4_leastOff 42 = .ok (.aload_n 0, 1) := by decide +kernel
theorem dX4_leastOff_43 : decode cX4_leastOff 43 = .ok (.getfield 42, 3) := by decide +kernel
theorem dX4_leastOff_46 : decode cX4_leastOff 46 = .ok (.bipush 30, 2) := by decide +kernel
theorem dX4_leastOff_48 : decode cX4_leastOff 48 = .ok (.iload_n 3, 1) := by decide +kernel
theorem dX4_leastOff_49 : decode cX4_leastOff 49 = .ok (.imul, 1) := by decide +kernel
theorem dX4_leastOff_50 : decode cX4_leastOff 50 = .ok (.if_icmp .gt 13, 3) := by decide +kernel
theorem dX4_leastOff_53 : decode cX4_leastOff 53 = .ok (.aload_n 0, 1) := by decide +kernel
theorem dX4_leastOff_54 : decode cX4_leastOff 54 = .ok (.getfield 42, 3) := by decide +kernel
theorem dX4_leastOff_57 : decode cX4_leastOff 57 = .ok (.sipush 133, 3) := by decide +kernel
theorem dX4_leastOff_60 : decode cX4_leastOff 60 = .ok (.if_icmp .lt 5, 3) := by decide +kernel
theorem dX4_leastOff_63 : decode cX4_leastOff 63 = .ok (.iconst (-1), 1) := by decide +kernel
theorem dX4_leastOff_64 : decode cX4_leastOff 64 = .ok (.ireturn, 1) := by decide +kernel
theorem dX4_leastOff_65 : decode cX4_leastOff 65 = .ok (.aload_n 0, 1) := by decide +kernel
theorem dX4_leastOff_66 : decode cX4_leastOff 66 = .ok (.getfield 19, 3) := by decide +kernel
theorem dX4_leastOff_69 : decode cX4_leastOff 69 = .ok (.iload_n 3, 1) := by decide +kernel
theorem dX4_leastOff_70 : decode cX4_leastOff 70 = .ok (.sipush 133, 3) := by decide +kernel
theorem dX4_leastOff_73 : decode cX4_leastOff 73 = .ok (.imul, 1) := by decide +kernel
theorem dX4_leastOff_74 : decode cX4_leastOff 74 = .ok (.iconst 0, 1) := by decide +kernel
theorem dX4_leastOff_75 : decode cX4_leastOff 75 = .ok (.iastore, 1) := by decide +kernel
theorem dX4_leastOff_76 : decode cX4_leastOff 76 = .ok (.iload_n 3, 1) := by decide +kernel
theorem dX4_leastOff_77 : decode cX4_leastOff 77 = .ok (.iconst 1, 1) := by decide +kernel
theorem dX4_leastOff_78 : decode cX4_leastOff 78 = .ok (.isub, 1) := by decide +kernel
theorem dX4_leastOff_79 : decode cX4_leastOff 79 = .ok (.istore 4, 2) := by decide +kernel
theorem dX4_leastOff_81 : decode cX4_leastOff 81 = .ok (.iload 4, 2) := by decide +kernel
theorem dX4_leastOff_83 : decode cX4_leastOff 83 = .ok (.ifCond .lt 24, 3) := by decide +kernel
theorem dX4_leastOff_86 : decode cX4_leastOff 86 = .ok (.aload_n 0, 1) := by decide +kernel
theorem dX4_leastOff_87 : decode cX4_leastOff 87 = .ok (.iload 4, 2) := by decide +kernel
theorem dX4_leastOff_89 : decode cX4_leastOff 89 = .ok (.bipush 30, 2) := by decide +kernel
theorem dX4_leastOff_91 : decode cX4_leastOff 91 = .ok (.iload_n 3, 1) := by decide +kernel
theorem dX4_leastOff_92 : decode cX4_leastOff 92 = .ok (.iload 4, 2) := by decide +kernel
theorem dX4_leastOff_94 : decode cX4_leastOff 94 = .ok (.isub, 1) := by decide +kernel
theorem dX4_leastOff_95 : decode cX4_leastOff 95 = .ok (.iconst 1, 1) := by decide +kernel
theorem dX4_leastOff_96 : decode cX4_leastOff 96 = .ok (.isub, 1) := by decide +kernel
theorem dX4_leastOff_97 : decode cX4_leastOff 97 = .ok (.imul, 1) := by decide +kernel
theorem dX4_leastOff_98 : decode cX4_leastOff 98 = .ok (.invokevirtual 48, 3) := by decide +kernel
theorem dX4_leastOff_101 : decode cX4_leastOff 101 = .ok (.iinc 4 (-1), 3) := by decide +kernel
theorem dX4_leastOff_104 : decode cX4_leastOff 104 = .ok (.goto (-23), 3) := by decide +kernel
theorem dX4_leastOff_107 : decode cX4_leastOff 107 = .ok (.aload_n 0, 1) := by decide +kernel
theorem dX4_leastOff_108 : decode cX4_leastOff 108 = .ok (.getfield 19, 3) := by decide +kernel
theorem dX4_leastOff_111 : decode cX4_leastOff 111 = .ok (.aload_n 0, 1) := by decide +kernel
theorem dX4_leastOff_112 : decode cX4_leastOff 112 = .ok (.getfield 42, 3) := by decide +kernel
theorem dX4_leastOff_115 : decode cX4_leastOff 115 = .ok (.iaload, 1) := by decide +kernel
theorem dX4_leastOff_116 : decode cX4_leastOff 116 = .ok (.ireturn, 1) := by decide +kernel
theorem dX4_fillFrom_0 : decode cX4_fillFrom 0 = .ok (.iconst 0, 1) := by decide +kernel
theorem dX4_fillFrom_1 : decode cX4_fillFrom 1 = .ok (.istore_n 3, 1) := by decide +kernel
theorem dX4_fillFrom_2 : decode cX4_fillFrom 2 = .ok (.iload_n 3, 1) := by decide +kernel
theorem dX4_fillFrom_3 : decode cX4_fillFrom 3 = .ok (.bipush 30, 2) := by decide +kernel
theorem dX4_fillFrom_5 : decode cX4_fillFrom 5 = .ok (.if_icmp .gt 32, 3) := by decide +kernel
theorem dX4_fillFrom_8 : decode cX4_fillFrom 8 = .ok (.aload_n 0, 1) := by decide +kernel
theorem dX4_fillFrom_9 : decode cX4_fillFrom 9 = .ok (.getfield 23, 3) := by decide +kernel
theorem dX4_fillFrom_12 : decode cX4_fillFrom 12 = .ok (.iload_n 3, 1) := by decide +kernel
theorem dX4_fillFrom_13 : decode cX4_fillFrom 13 = .ok (.aload_n 0, 1) := by decide +kernel
theorem dX4_fillFrom_14 : decode cX4_fillFrom 14 = .ok (.getfield 15, 3) := by decide +kernel
theorem dX4_fillFrom_17 : decode cX4_fillFrom 17 = .ok (.iload_n 1, 1) := by decide +kernel
theorem dX4_fillFrom_18 : decode cX4_fillFrom 18 = .ok (.iload_n 3, 1) := by decide +kernel
theorem dX4_fillFrom_19 : decode cX4_fillFrom 19 = .ok (.invokevirtual 52, 3) := by decide +kernel
theorem dX4_fillFrom_22 : decode cX4_fillFrom 22 = .ok (.aload_n 0, 1) := by decide +kernel
theorem dX4_fillFrom_23 : decode cX4_fillFrom 23 = .ok (.getfield 32, 3) := by decide +kernel
theorem dX4_fillFrom_26 : decode cX4_fillFrom 26 = .ok (.isub, 1) := by decide +kernel
theorem dX4_fillFrom_27 : decode cX4_fillFrom 27 = .ok (.invokestatic 56, 3) := by decide +kernel
theorem dX4_fillFrom_30 : decode cX4_fillFrom 30 = .ok (.iastore, 1) := by decide +kernel
theorem dX4_fillFrom_31 : decode cX4_fillFrom 31 = .ok (.iinc 3 1, 3) := by decide +kernel
theorem dX4_fillFrom_34 : decode cX4_fillFrom 34 = .ok (.goto (-32), 3) := by decide +kernel
theorem dX4_fillFrom_37 : decode cX4_fillFrom 37 = .ok (.iconst 0, 1) := by decide +kernel
theorem dX4_fillFrom_38 : decode cX4_fillFrom 38 = .ok (.aload_n 0, 1) := by decide +kernel
theorem dX4_fillFrom_39 : decode cX4_fillFrom 39 = .ok (.getfield 42, 3) := by decide +kernel
theorem dX4_fillFrom_42 : decode cX4_fillFrom 42 = .ok (.bipush 30, 2) := by decide +kernel
theorem dX4_fillFrom_44 : decode cX4_fillFrom 44 = .ok (.iload_n 1, 1) := by decide +kernel
theorem dX4_fillFrom_45 : decode cX4_fillFrom 45 = .ok (.imul, 1) := by decide +kernel
theorem dX4_fillFrom_46 : decode cX4_fillFrom 46 = .ok (.isub, 1) := by decide +kernel
theorem dX4_fillFrom_47 : decode cX4_fillFrom 47 = .ok (.invokestatic 61, 3) := by decide +kernel
theorem dX4_fillFrom_50 : decode cX4_fillFrom 50 = .ok (.istore_n 3, 1) := by decide +kernel
theorem dX4_fillFrom_51 : decode cX4_fillFrom 51 = .ok (.aload_n 0, 1) := by decide +kernel
theorem dX4_fillFrom_52 : decode cX4_fillFrom 52 = .ok (.getfield 42, 3) := by decide +kernel
theorem dX4_fillFrom_55 : decode cX4_fillFrom 55 = .ok (.iload_n 2, 1) := by decide +kernel
theorem dX4_fillFrom_56 : decode cX4_fillFrom 56 = .ok (.bipush 30, 2) := by decide +kernel
theorem dX4_fillFrom_58 : decode cX4_fillFrom 58 = .ok (.iadd, 1) := by decide +kernel
theorem dX4_fillFrom_59 : decode cX4_fillFrom 59 = .ok (.invokestatic 64, 3) := by decide +kernel
theorem dX4_fillFrom_62 : decode cX4_fillFrom 62 = .ok (.istore 4, 2) := by decide +kernel
theorem dX4_fillFrom_64 : decode cX4_fillFrom 64 = .ok (.iload_n 3, 1) := by decide +kernel
theorem dX4_fillFrom_65 : decode cX4_fillFrom 65 = .ok (.istore 5, 2) := by decide +kernel
theorem dX4_fillFrom_67 : decode cX4_fillFrom 67 = .ok (.iload 5, 2) := by decide +kernel
theorem dX4_fillFrom_69 : decode cX4_fillFrom 69 = .ok (.iload 4, 2) := by decide +kernel
theorem dX4_fillFrom_71 : decode cX4_fillFrom 71 = .ok (.if_icmp .gt 103, 3) := by decide +kernel
theorem dX4_fillFrom_74 : decode cX4_fillFrom 74 = .ok (.iload_n 1, 1) := by decide +kernel
theorem dX4_fillFrom_75 : decode cX4_fillFrom 75 = .ok (.iconst 1, 1) := by decide +kernel
theorem dX4_fillFrom_76 : decode cX4_fillFrom 76 = .ok (.iadd, 1) := by decide +kernel
theorem dX4_fillFrom_77 : decode cX4_fillFrom 77 = .ok (.sipush 133, 3) := by decide +kernel
theorem dX4_fillFrom_80 : decode cX4_fillFrom 80 = .ok (.imul, 1) := by decide +kernel
theorem dX4_fillFrom_81 : decode cX4_fillFrom 81 = .ok (.iload 5, 2) := by decide +kernel
theorem dX4_fillFrom_83 : decode cX4_fillFrom 83 = .ok (.iadd, 1) := by decide +kernel
theorem dX4_fillFrom_84 : decode cX4_fillFrom 84 = .ok (.istore 6, 2) := by decide +kernel
theorem dX4_fillFrom_86 : decode cX4_fillFrom 86 = .ok (.bipush 30, 2) := by decide +kernel
theorem dX4_fillFrom_88 : decode cX4_fillFrom 88 = .ok (.iload 5, 2) := by decide +kernel
theorem dX4_fillFrom_90 : decode cX4_fillFrom 90 = .ok (.invokestatic 64, 3) := by decide +kernel
theorem dX4_fillFrom_93 : decode cX4_fillFrom 93 = .ok (.istore 7, 2) := by decide +kernel
theorem dX4_fillFrom_95 : decode cX4_fillFrom 95 = .ok (.ldc 67, 2) := by decide +kernel
theorem dX4_fillFrom_97 : decode cX4_fillFrom 97 = .ok (.istore 8, 2) := by decide +kernel
theorem dX4_fillFrom_99 : decode cX4_fillFrom 99 = .ok (.iconst 0, 1) := by decide +kernel
theorem dX4_fillFrom_100 : decode cX4_fillFrom 100 = .ok (.iload 5, 2) := by decide +kernel
theorem dX4_fillFrom_102 : decode cX4_fillFrom 102 = .ok (.iload_n 2, 1) := by decide +kernel
theorem dX4_fillFrom_103 : decode cX4_fillFrom 103 = .ok (.isub, 1) := by decide +kernel
theorem dX4_fillFrom_104 : decode cX4_fillFrom 104 = .ok (.invokestatic 61, 3) := by decide +kernel
theorem dX4_fillFrom_107 : decode cX4_fillFrom 107 = .ok (.istore 9, 2) := by decide +kernel
theorem dX4_fillFrom_109 : decode cX4_fillFrom 109 = .ok (.iload 9, 2) := by decide +kernel
theorem dX4_fillFrom_111 : decode cX4_fillFrom 111 = .ok (.iload 7, 2) := by decide +kernel
theorem dX4_fillFrom_113 : decode cX4_fillFrom 113 = .ok (.if_icmp .gt 40, 3) := by decide +kernel
theorem dX4_fillFrom_116 : decode cX4_fillFrom 116 = .ok (.aload_n 0, 1) := by decide +kernel
theorem dX4_fillFrom_117 : decode cX4_fillFrom 117 = .ok (.getfield 19, 3) := by decide +kernel
theorem dX4_fillFrom_120 : decode cX4_fillFrom 120 = .ok (.iload 6, 2) := by decide +kernel
theorem dX4_fillFrom_122 : decode cX4_fillFrom 122 = .ok (.iload 9, 2) := by decide +kernel
theorem dX4_fillFrom_124 : decode cX4_fillFrom 124 = .ok (.isub, 1) := by decide +kernel
theorem dX4_fillFrom_125 : decode cX4_fillFrom 125 = .ok (.iaload, 1) := by decide +kernel
theorem dX4_fillFrom_126 : decode cX4_fillFrom 126 = .ok (.aload_n 0, 1) := by decide +kernel
theorem dX4_fillFrom_127 : decode cX4_fillFrom 127 = .ok (.getfield 23, 3) := by decide +kernel
theorem dX4_fillFrom_130 : decode cX4_fillFrom 130 = .ok (.iload 9, 2) := by decide +kernel
theorem dX4_fillFrom_132 : decode cX4_fillFrom 132 = .ok (.iaload, 1) := by decide +kernel
theorem dX4_fillFrom_133 : decode cX4_fillFrom 133 = .ok (.iadd, 1) := by decide +kernel
theorem dX4_fillFrom_134 : decode cX4_fillFrom 134 = .ok (.istore 10, 2) := by decide +kernel
theorem dX4_fillFrom_136 : decode cX4_fillFrom 136 = .ok (.iload 10, 2) := by decide +kernel
theorem dX4_fillFrom_138 : decode cX4_fillFrom 138 = .ok (.iload 8, 2) := by decide +kernel
theorem dX4_fillFrom_140 : decode cX4_fillFrom 140 = .ok (.if_icmp .ge 7, 3) := by decide +kernel
theorem dX4_fillFrom_143 : decode cX4_fillFrom 143 = .ok (.iload 10, 2) := by decide +kernel
theorem dX4_fillFrom_145 : decode cX4_fillFrom 145 = .ok (.istore 8, 2) := by decide +kernel
theorem dX4_fillFrom_147 : decode cX4_fillFrom 147 = .ok (.iinc 9 1, 3) := by decide +kernel
theorem dX4_fillFrom_150 : decode cX4_fillFrom 150 = .ok (.goto (-41), 3) := by decide +kernel
theorem dX4_fillFrom_153 : decode cX4_fillFrom 153 = .ok (.aload_n 0, 1) := by decide +kernel
theorem dX4_fillFrom_154 : decode cX4_fillFrom 154 = .ok (.getfield 19, 3) := by decide +kernel
theorem dX4_fillFrom_157 : decode cX4_fillFrom 157 = .ok (.iload_n 1, 1) := by decide +kernel
theorem dX4_fillFrom_158 : decode cX4_fillFrom 158 = .ok (.sipush 133, 3) := by decide +kernel
theorem dX4_fillFrom_161 : decode cX4_fillFrom 161 = .ok (.imul, 1) := by decide +kernel
theorem dX4_fillFrom_162 : decode cX4_fillFrom 162 = .ok (.iload 5, 2) := by decide +kernel
theorem dX4_fillFrom_164 : decode cX4_fillFrom 164 = .ok (.iadd, 1) := by decide +kernel
theorem dX4_fillFrom_165 : decode cX4_fillFrom 165 = .ok (.iload 8, 2) := by decide +kernel
theorem dX4_fillFrom_167 : decode cX4_fillFrom 167 = .ok (.iastore, 1) := by decide +kernel
theorem dX4_fillFrom_168 : decode cX4_fillFrom 168 = .ok (.iinc 5 1, 3) := by decide +kernel
theorem dX4_fillFrom_171 : decode cX4_fillFrom 171 = .ok (.goto (-104), 3) := by decide +kernel
theorem dX4_fillFrom_174 : decode cX4_fillFrom 174 = .ok (.return_, 1) := by decide +kernel
theorem dX4_putDistances_0 : decode cX4_putDistances 0 = .ok (.aload_n 0, 1) := by decide +kernel
theorem dX4_putDistances_1 : decode cX4_putDistances 1 = .ok (.getfield 42, 3) := by decide +kernel
theorem dX4_putDistances_4 : decode cX4_putDistances 4 = .ok (.istore_n 2, 1) := by decide +kernel
theorem dX4_putDistances_5 : decode cX4_putDistances 5 = .ok (.iconst 0, 1) := by decide +kernel
theorem dX4_putDistances_6 : decode cX4_putDistances 6 = .ok (.istore_n 3, 1) := by decide +kernel
theorem dX4_putDistances_7 : decode cX4_putDistances 7 = .ok (.iload_n 3, 1) := by decide +kernel
theorem dX4_putDistances_8 : decode cX4_putDistances 8 = .ok (.aload_n 0, 1) := by decide +kernel
theorem dX4_putDistances_9 : decode cX4_putDistances 9 = .ok (.getfield 9, 3) := by decide +kernel
theorem dX4_putDistances_12 : decode cX4_putDistances 12 = .ok (.invokevirtual 26, 3) := by decide +kernel
theorem dX4_putDistances_15 : decode cX4_putDistances 15 = .ok (.if_icmp .ge 24, 3) := by decide +kernel
theorem dX4_putDistances_18 : decode cX4_putDistances 18 = .ok (.aload_n 1, 1) := by decide +kernel
theorem dX4_putDistances_19 : decode cX4_putDistances 19 = .ok (.iload_n 3, 1) := by decide +kernel
theorem dX4_putDistances_20 : decode cX4_putDistances 20 = .ok (.aload_n 0, 1) := by decide +kernel
theorem dX4_putDistances_21 : decode cX4_putDistances 21 = .ok (.iload_n 3, 1) := by decide +kernel
theorem dX4_putDistances_22 : decode cX4_putDistances 22 = .ok (.iload_n 2, 1) := by decide +kernel
theorem dX4_putDistances_23 : decode cX4_putDistances 23 = .ok (.invokevirtual 68, 3) := by decide +kernel
theorem dX4_putDistances_26 : decode cX4_putDistances 26 = .ok (.iastore, 1) := by decide +kernel
theorem dX4_putDistances_27 : decode cX4_putDistances 27 = .ok (.iload_n 2, 1) := by decide +kernel
theorem dX4_putDistances_28 : decode cX4_putDistances 28 = .ok (.aload_n 1, 1) := by decide +kernel
theorem dX4_putDistances_29 : decode cX4_putDistances 29 = .ok (.iload_n 3, 1) := by decide +kernel
theorem dX4_putDistances_30 : decode cX4_putDistances 30 = .ok (.iaload, 1) := by decide +kernel
theorem dX4_putDistances_31 : decode cX4_putDistances 31 = .ok (.isub, 1) := by decide +kernel
theorem dX4_putDistances_32 : decode cX4_putDistances 32 = .ok (.istore_n 2, 1) := by decide +kernel
theorem dX4_putDistances_33 : decode cX4_putDistances 33 = .ok (.iinc 3 1, 3) := by decide +kernel
theorem dX4_putDistances_36 : decode cX4_putDistances 36 = .ok (.goto (-29), 3) := by decide +kernel
theorem dX4_putDistances_39 : decode cX4_putDistances 39 = .ok (.return_, 1) := by decide +kernel
theorem dX4_distanceOf_0 : decode cX4_distanceOf 0 = .ok (.aload_n 0, 1) := by decide +kernel
theorem dX4_distanceOf_1 : decode cX4_distanceOf 1 = .ok (.getfield 42, 3) := by decide +kernel
theorem dX4_distanceOf_4 : decode cX4_distanceOf 4 = .ok (.istore_n 2, 1) := by decide +kernel
theorem dX4_distanceOf_5 : decode cX4_distanceOf 5 = .ok (.iconst 0, 1) := by decide +kernel
theorem dX4_distanceOf_6 : decode cX4_distanceOf 6 = .ok (.istore_n 3, 1) := by decide +kernel
theorem dX4_distanceOf_7 : decode cX4_distanceOf 7 = .ok (.iconst 0, 1) := by decide +kernel
theorem dX4_distanceOf_8 : decode cX4_distanceOf 8 = .ok (.istore 4, 2) := by decide +kernel
theorem dX4_distanceOf_10 : decode cX4_distanceOf 10 = .ok (.iload 4, 2) := by decide +kernel
theorem dX4_distanceOf_12 : decode cX4_distanceOf 12 = .ok (.iload_n 1, 1) := by decide +kernel
theorem dX4_distanceOf_13 : decode cX4_distanceOf 13 = .ok (.if_icmp .gt 21, 3) := by decide +kernel
theorem dX4_distanceOf_16 : decode cX4_distanceOf 16 = .ok (.aload_n 0, 1) := by decide +kernel
theorem dX4_distanceOf_17 : decode cX4_distanceOf 17 = .ok (.iload 4, 2) := by decide +kernel
theorem dX4_distanceOf_19 : decode cX4_distanceOf 19 = .ok (.iload_n 2, 1) := by decide +kernel
theorem dX4_distanceOf_20 : decode cX4_distanceOf 20 = .ok (.invokevirtual 68, 3) := by decide +kernel
theorem dX4_distanceOf_23 : decode cX4_distanceOf 23 = .ok (.istore_n 3, 1) := by decide +kernel
theorem dX4_distanceOf_24 : decode cX4_distanceOf 24 = .ok (.iload_n 2, 1) := by decide +kernel
theorem dX4_distanceOf_25 : decode cX4_distanceOf 25 = .ok (.iload_n 3, 1) := by decide +kernel
theorem dX4_distanceOf_26 : decode cX4_distanceOf 26 = .ok (.isub, 1) := by decide +kernel
theorem dX4_distanceOf_27 : decode cX4_distanceOf 27 = .ok (.istore_n 2, 1) := by decide +kernel
theorem dX4_distanceOf_28 : decode cX4_distanceOf 28 = .ok (.iinc 4 1, 3) := by decide +kernel
theorem dX4_distanceOf_31 : decode cX4_distanceOf 31 = .ok (.goto (-21), 3) := by decide +kernel
theorem dX4_distanceOf_34 : decode cX4_distanceOf 34 = .ok (.iload_n 3, 1) := by decide +kernel
theorem dX4_distanceOf_35 : decode cX4_distanceOf 35 = .ok (.ireturn, 1) := by decide +kernel
theorem dX4_firstDistance_0 : decode cX4_firstDistance 0 = .ok (.bipush 30, 2) := by decide +kernel
theorem dX4_firstDistance_2 : decode cX4_firstDistance 2 = .ok (.aload_n 0, 1) := by decide +kernel
theorem dX4_firstDistance_3 : decode cX4_firstDistance 3 = .ok (.getfield 9, 3) := by decide +kernel
theorem dX4_firstDistance_6 : decode cX4_firstDistance 6 = .ok (.invokevirtual 26, 3) := by decide +kernel
theorem dX4_firstDistance_9 : decode cX4_firstDistance 9 = .ok (.iload_n 1, 1) := by decide +kernel
theorem dX4_firstDistance_10 : decode cX4_firstDistance 10 = .ok (.isub, 1) := by decide +kernel
theorem dX4_firstDistance_11 : decode cX4_firstDistance 11 = .ok (.iconst 1, 1) := by decide +kernel
theorem dX4_firstDistance_12 : decode cX4_firstDistance 12 = .ok (.isub, 1) := by decide +kernel
theorem dX4_firstDistance_13 : decode cX4_firstDistance 13 = .ok (.imul, 1) := by decide +kernel
theorem dX4_firstDistance_14 : decode cX4_firstDistance 14 = .ok (.istore_n 3, 1) := by decide +kernel
theorem dX4_firstDistance_15 : decode cX4_firstDistance 15 = .ok (.bipush 30, 2) := by decide +kernel
theorem dX4_firstDistance_17 : decode cX4_firstDistance 17 = .ok (.iload_n 2, 1) := by decide +kernel
theorem dX4_firstDistance_18 : decode cX4_firstDistance 18 = .ok (.invokestatic 64, 3) := by decide +kernel
theorem dX4_firstDistance_21 : decode cX4_firstDistance 21 = .ok (.istore 4, 2) := by decide +kernel
theorem dX4_firstDistance_23 : decode cX4_firstDistance 23 = .ok (.aload_n 0, 1) := by decide +kernel
theorem dX4_firstDistance_24 : decode cX4_firstDistance 24 = .ok (.getfield 19, 3) := by decide +kernel
theorem dX4_firstDistance_27 : decode cX4_firstDistance 27 = .ok (.iload_n 1, 1) := by decide +kernel
theorem dX4_firstDistance_28 : decode cX4_firstDistance 28 = .ok (.sipush 133, 3) := by decide +kernel
theorem dX4_firstDistance_31 : decode cX4_firstDistance 31 = .ok (.imul, 1) := by decide +kernel
theorem dX4_firstDistance_32 : decode cX4_firstDistance 32 = .ok (.iload_n 2, 1) := by decide +kernel
theorem dX4_firstDistance_33 : decode cX4_firstDistance 33 = .ok (.iadd, 1) := by decide +kernel
theorem dX4_firstDistance_34 : decode cX4_firstDistance 34 = .ok (.iaload, 1) := by decide +kernel
theorem dX4_firstDistance_35 : decode cX4_firstDistance 35 = .ok (.istore 5, 2) := by decide +kernel
theorem dX4_firstDistance_37 : decode cX4_firstDistance 37 = .ok (.iconst 0, 1) := by decide +kernel
theorem dX4_firstDistance_38 : decode cX4_firstDistance 38 = .ok (.iload_n 2, 1) := by decide +kernel
theorem dX4_firstDistance_39 : decode cX4_firstDistance 39 = .ok (.iload_n 3, 1) := by decide +kernel
theorem dX4_firstDistance_40 : decode cX4_firstDistance 40 = .ok (.isub, 1) := by decide +kernel
theorem dX4_firstDistance_41 : decode cX4_firstDistance 41 = .ok (.invokestatic 61, 3) := by decide +kernel
theorem dX4_firstDistance_44 : decode cX4_firstDistance 44 = .ok (.istore 6, 2) := by decide +kernel
theorem dX4_firstDistance_46 : decode cX4_firstDistance 46 = .ok (.iload 6, 2) := by decide +kernel
theorem dX4_firstDistance_48 : decode cX4_firstDistance 48 = .ok (.iload 4, 2) := by decide +kernel
theorem dX4_firstDistance_50 : decode cX4_firstDistance 50 = .ok (.if_icmp .ge 57, 3) := by decide +kernel
theorem dX4_firstDistance_53 : decode cX4_firstDistance 53 = .ok (.aload_n 0, 1) := by decide +kernel
theorem dX4_firstDistance_54 : decode cX4_firstDistance 54 = .ok (.getfield 19, 3) := by decide +kernel
theorem dX4_firstDistance_57 : decode cX4_firstDistance 57 = .ok (.iload_n 1, 1) := by decide +kernel
theorem dX4_firstDistance_58 : decode cX4_firstDistance 58 = .ok (.iconst 1, 1) := by decide +kernel
theorem dX4_firstDistance_59 : decode cX4_firstDistance 59 = .ok (.iadd, 1) := by decide +kernel
theorem dX4_firstDistance_60 : decode cX4_firstDistance 60 = .ok (.sipush 133, 3) := by decide +kernel
theorem dX4_firstDistance_63 : decode cX4_firstDistance 63 = .ok (.imul, 1) := by decide +kernel
theorem dX4_firstDistance_64 : decode cX4_firstDistance 64 = .ok (.iload_n 2, 1) := by decide +kernel
theorem dX4_firstDistance_65 : decode cX4_firstDistance 65 = .ok (.iadd, 1) := by decide +kernel
theorem dX4_firstDistance_66 : decode cX4_firstDistance 66 = .ok (.iload 6, 2) := by decide +kernel
theorem dX4_firstDistance_68 : decode cX4_firstDistance 68 = .ok (.isub, 1) := by decide +kernel
theorem dX4_firstDistance_69 : decode cX4_firstDistance 69 = .ok (.iaload, 1) := by decide +kernel
theorem dX4_firstDistance_70 : decode cX4_firstDistance 70 = .ok (.istore 7, 2) := by decide +kernel
theorem dX4_firstDistance_72 : decode cX4_firstDistance 72 = .ok (.iload 7, 2) := by decide +kernel
theorem dX4_firstDistance_74 : decode cX4_firstDistance 74 = .ok (.aload_n 0, 1) := by decide +kernel
theorem dX4_firstDistance_75 : decode cX4_firstDistance 75 = .ok (.getfield 15, 3) := by decide +kernel
theorem dX4_firstDistance_78 : decode cX4_firstDistance 78 = .ok (.iload_n 1, 1) := by decide +kernel
theorem dX4_firstDistance_79 : decode cX4_firstDistance 79 = .ok (.iload 6, 2) := by decide +kernel
theorem dX4_firstDistance_81 : decode cX4_firstDistance 81 = .ok (.invokevirtual 52, 3) := by decide +kernel
theorem dX4_firstDistance_84 : decode cX4_firstDistance 84 = .ok (.aload_n 0, 1) := by decide +kernel
theorem dX4_firstDistance_85 : decode cX4_firstDistance 85 = .ok (.getfield 32, 3) := by decide +kernel
theorem dX4_firstDistance_88 : decode cX4_firstDistance 88 = .ok (.isub, 1) := by decide +kernel
theorem dX4_firstDistance_89 : decode cX4_firstDistance 89 = .ok (.invokestatic 56, 3) := by decide +kernel
theorem dX4_firstDistance_92 : decode cX4_firstDistance 92 = .ok (.iadd, 1) := by decide +kernel
theorem dX4_firstDistance_93 : decode cX4_firstDistance 93 = .ok (.iload 5, 2) := by decide +kernel
theorem dX4_firstDistance_95 : decode cX4_firstDistance 95 = .ok (.if_icmp .ne 6, 3) := by decide +kernel
theorem dX4_firstDistance_98 : decode cX4_firstDistance 98 = .ok (.iload 6, 2) := by decide +kernel
theorem dX4_firstDistance_100 : decode cX4_firstDistance 100 = .ok (.ireturn, 1) := by decide +kernel
theorem dX4_firstDistance_101 : decode cX4_firstDistance 101 = .ok (.iinc 6 1, 3) := by decide +kernel
theorem dX4_firstDistance_104 : decode cX4_firstDistance 104 = .ok (.goto (-58), 3) := by decide +kernel
theorem dX4_firstDistance_107 : decode cX4_firstDistance 107 = .ok (.iload 4, 2) := by decide +kernel
theorem dX4_firstDistance_109 : decode cX4_firstDistance 109 = .ok (.ireturn, 1) := by decide +kernel
theorem dX5_init_0 : decode cX5_init 0 = .ok (.aload_n 0, 1) := by decide +kernel
theorem dX5_init_1 : decode cX5_init 1 = .ok (.invokespecial 3, 3) := by decide +kernel
theorem dX5_init_4 : decode cX5_init 4 = .ok (.aload_n 0, 1) := by decide +kernel
theorem dX5_init_5 : decode cX5_init 5 = .ok (.aload_n 1, 1) := by decide +kernel
theorem dX5_init_6 : decode cX5_init 6 = .ok (.putfield 9, 3) := by decide +kernel
theorem dX5_init_9 : decode cX5_init 9 = .ok (.aload_n 0, 1) := by decide +kernel
theorem dX5_init_10 : decode cX5_init 10 = .ok (.aload_n 2, 1) := by decide +kernel
theorem dX5_init_11 : decode cX5_init 11 = .ok (.putfield 15, 3) := by decide +kernel
theorem dX5_init_14 : decode cX5_init 14 = .ok (.aload_n 0, 1) := by decide +kernel
theorem dX5_init_15 : decode cX5_init 15 = .ok (.aload_n 3, 1) := by decide +kernel
theorem dX5_init_16 : decode cX5_init 16 = .ok (.putfield 19, 3) := by decide +kernel
theorem dX5_init_19 : decode cX5_init 19 = .ok (.aload_n 0, 1) := by decide +kernel
theorem dX5_init_20 : decode cX5_init 20 = .ok (.sipush 645, 3) := by decide +kernel
theorem dX5_init_23 : decode cX5_init 23 = .ok (.newarray .int, 2) := by decide +kernel
theorem dX5_init_25 : decode cX5_init 25 = .ok (.putfield 23, 3) := by decide +kernel
theorem dX5_init_28 : decode cX5_init 28 = .ok (.return_, 1) := by decide +kernel
theorem dX5_leastHarm_0 : decode cX5_leastHarm 0 = .ok (.aload_n 0, 1) := by decide +kernel
theorem dX5_leastHarm_1 : decode cX5_leastHarm 1 = .ok (.iconst 0, 1) := by decide +kernel
theorem dX5_leastHarm_2 : decode cX5_leastHarm 2 = .ok (.iload_n 1, 1) := by decide +kernel
theorem dX5_leastHarm_3 : decode cX5_leastHarm 3 = .ok (.invokestatic 27, 3) := by decide +kernel
theorem dX5_leastHarm_6 : decode cX5_leastHarm 6 = .ok (.putfield 33, 3) := by decide +kernel
theorem dX5_leastHarm_9 : decode cX5_leastHarm 9 = .ok (.aload_n 0, 1) := by decide +kernel
theorem dX5_leastHarm_10 : decode cX5_leastHarm 10 = .ok (.getfield 33, 3) := by decide +kernel
theorem dX5_leastHarm_13 : decode cX5_leastHarm 13 = .ok (.bipush 43, 2) := by decide +kernel
theorem dX5_leastHarm_15 : decode cX5_leastHarm 15 = .ok (.if_icmp .lt 5, 3) := by decide +kernel
theorem dX5_leastHarm_18 : decode cX5_leastHarm 18 = .ok (.iconst (-1), 1) := by decide +kernel
theorem dX5_leastHarm_19 : decode cX5_leastHarm 19 = .ok (.ireturn, 1) := by decide +kernel
theorem dX5_leastHarm_20 : decode cX5_leastHarm 20 = .ok (.aload_n 0, 1) := by decide +kernel
theorem dX5_leastHarm_21 : decode cX5_leastHarm 21 = .ok (.getfield 9, 3) := by decide +kernel
theorem dX5_leastHarm_24 : decode cX5_leastHarm 24 = .ok (.getfield 37, 3) := by decide +kernel
theorem dX5_leastHarm_27 : decode cX5_leastHarm 27 = .ok (.bipush 43, 2) := by decide +kernel
theorem dX5_leastHarm_29 : decode cX5_leastHarm 29 = .ok (.imul, 1) := by decide +kernel
theorem dX5_leastHarm_30 : decode cX5_leastHarm 30 = .ok (.istore_n 2, 1) := by decide +kernel
theorem dX5_leastHarm_31 : decode cX5_leastHarm 31 = .ok (.aload_n 0, 1) := by decide +kernel
theorem dX5_leastHarm_32 : decode cX5_leastHarm 32 = .ok (.getfield 23, 3) := by decide +kernel
theorem dX5_leastHarm_35 : decode cX5_leastHarm 35 = .ok (.iload_n 2, 1) := by decide +kernel
theorem dX5_leastHarm_36 : decode cX5_leastHarm 36 = .ok (.iconst 0, 1) := by decide +kernel
theorem dX5_leastHarm_37 : decode cX5_leastHarm 37 = .ok (.iastore, 1) := by decide +kernel
theorem dX5_leastHarm_38 : decode cX5_leastHarm 38 = .ok (.iconst 1, 1) := by decide +kernel
theorem dX5_leastHarm_39 : decode cX5_leastHarm 39 = .ok (.istore_n 3, 1) := by decide +kernel
theorem dX5_leastHarm_40 : decode cX5_leastHarm 40 = .ok (.iload_n 3, 1) := by decide +kernel
theorem dX5_leastHarm_41 : decode cX5_leastHarm 41 = .ok (.aload_n 0, 1) := by decide +kernel
theorem dX5_leastHarm_42 : decode cX5_leastHarm 42 = .ok (.getfield 33, 3) := by decide +kernel
theorem dX5_leastHarm_45 : decode cX5_leastHarm 45 = .ok (.if_icmp .gt 19, 3) := by decide +kernel
theorem dX5_leastHarm_48 : decode cX5_leastHarm 48 = .ok (.aload_n 0, 1) := by decide +kernel
theorem dX5_leastHarm_49 : decode cX5_leastHarm 49 = .ok (.getfield 23, 3) := by decide +kernel
theorem dX5_leastHarm_52 : decode cX5_leastHarm 52 = .ok (.iload_n 2, 1) := by decide +kernel
theorem dX5_leastHarm_53 : decode cX5_leastHarm 53 = .ok (.iload_n 3, 1) := by decide +kernel
theorem dX5_leastHarm_54 : decode cX5_leastHarm 54 = .ok (.iadd, 1) := by decide +kernel
theorem dX5_leastHarm_55 : decode cX5_leastHarm 55 = .ok (.ldc 42, 2) := by decide +kernel
theorem dX5_leastHarm_57 : decode cX5_leastHarm 57 = .ok (.iastore, 1) := by decide +kernel
theorem dX5_leastHarm_58 : decode cX5_leastHarm 58 = .ok (.iinc 3 1, 3) := by decide +kernel
theorem dX5_leastHarm_61 : decode cX5_leastHarm 61 = .ok (.goto (-21), 3) := by decide +kernel
theorem dX5_leastHarm_64 : decode cX5_leastHarm 64 = .ok (.aload_n 0, 1) := by decide +kernel
theorem dX5_leastHarm_65 : decode cX5_leastHarm 65 = .ok (.getfield 9, 3) := by decide +kernel
theorem dX5_leastHarm_68 : decode cX5_leastHarm 68 = .ok (.getfield 37, 3) := by decide +kernel
theorem dX5_leastHarm_71 : decode cX5_leastHarm 71 = .ok (.iconst 1, 1) := by decide +kernel
theorem dX5_leastHarm_72 : decode cX5_leastHarm 72 = .ok (.isub, 1) := by decide +kernel
theorem dX5_leastHarm_73 : decode cX5_leastHarm 73 = .ok (.istore_n 3, 1) := by decide +kernel
theorem dX5_leastHarm_74 : decode cX5_leastHarm 74 = .ok (.iload_n 3, 1) := by decide +kernel
theorem dX5_leastHarm_75 : decode cX5_leastHarm 75 = .ok (.ifCond .lt 46, 3) := by decide +kernel
theorem dX5_leastHarm_78 : decode cX5_leastHarm 78 = .ok (.iconst 0, 1) := by decide +kernel
theorem dX5_leastHarm_79 : decode cX5_leastHarm 79 = .ok (.istore 4, 2) := by decide +kernel
theorem dX5_leastHarm_81 : decode cX5_leastHarm 81 = .ok (.iload 4, 2) := by decide +kernel
theorem dX5_leastHarm_83 : decode cX5_leastHarm 83 = .ok (.aload_n 0, 1) := by decide +kernel
theorem dX5_leastHarm_84 : decode cX5_leastHarm 84 = .ok (.getfield 33, 3) := by decide +kernel
theorem dX5_leastHarm_87 : decode cX5_leastHarm 87 = .ok (.if_icmp .gt 28, 3) := by decide +kernel
theorem dX5_leastHarm_90 : decode cX5_leastHarm 90 = .ok (.aload_n 0, 1) := by decide +kernel
theorem dX5_leastHarm_91 : decode cX5_leastHarm 91 = .ok (.getfield 23, 3) := by decide +kernel
theorem dX5_leastHarm_94 : decode cX5_leastHarm 94 = .ok (.iload_n 3, 1) := by decide +kernel
theorem dX5_leastHarm_95 : decode cX5_leastHarm 95 = .ok (.bipush 43, 2) := by decide +kernel
theorem dX5_leastHarm_97 : decode cX5_leastHarm 97 = .ok (.imul, 1) := by decide +kernel
theorem dX5_leastHarm_98 : decode cX5_leastHarm 98 = .ok (.iload 4, 2) := by decide +kernel
theorem dX5_leastHarm_100 : decode cX5_leastHarm 100 = .ok (.iadd, 1) := by decide +kernel
theorem dX5_leastHarm_101 : decode cX5_leastHarm 101 = .ok (.aload_n 0, 1) := by decide +kernel
theorem dX5_leastHarm_102 : decode cX5_leastHarm 102 = .ok (.iload_n 3, 1) := by decide +kernel
theorem dX5_leastHarm_103 : decode cX5_leastHarm 103 = .ok (.iload 4, 2) := by decide +kernel
theorem dX5_leastHarm_105 : decode cX5_leastHarm 105 = .ok (.invokevirtual 43, 3) := by decide +kernel
theorem dX5_leastHarm_108 : decode cX5_leastHarm 108 = .ok (.iastore, 1) := by decide +kernel
theorem dX5_leastHarm_109 : decode cX5_leastHarm 109 = .ok (.iinc 4 1, 3) := by decide +kernel
theorem dX5_leastHarm_112 : decode cX5_leastHarm 112 = .ok (.goto (-31), 3) := by decide +kernel
theorem dX5_leastHarm_115 : decode cX5_leastHarm 115 = .ok (.iinc 3 (-1), 3) := by decide +kernel
theorem dX5_leastHarm_118 : decode cX5_leastHarm 118 = .ok (.goto (-44), 3) := by decide +kernel
theorem dX5_leastHarm_121 : decode cX5_leastHarm 121 = .ok (.aload_n 0, 1) := by decide +kernel
theorem dX5_leastHarm_122 : decode cX5_leastHarm 122 = .ok (.getfield 23, 3) := by decide +kernel
theorem dX5_leastHarm_125 : decode cX5_leastHarm 125 = .ok (.aload_n 0, 1) := by decide +kernel
theorem dX5_leastHarm_126 : decode cX5_leastHarm 126 = .ok (.getfield 33, 3) := by decide +kernel
theorem dX5_leastHarm_129 : decode cX5_leastHarm 129 = .ok (.iaload, 1) := by decide +kernel
theorem dX5_leastHarm_130 : decode cX5_leastHarm 130 = .ok (.ldc 42, 2) := by decide +kernel
theorem dX5_leastHarm_132 : decode cX5_leastHarm 132 = .ok (.if_icmp .lt 7, 3) := by decide +kernel
theorem dX5_leastHarm_135 : decode cX5_leastHarm 135 = .ok (.iconst (-1), 1) := by decide +kernel
theorem dX5_leastHarm_136 : decode cX5_leastHarm 136 = .ok (.goto 12, 3) := by decide +kernel
theorem dX5_leastHarm_139 : decode cX5_leastHarm 139 = .ok (.aload_n 0, 1) := by decide +kernel
theorem dX5_leastHarm_140 : decode cX5_leastHarm 140 = .ok (.getfield 23, 3) := by decide +kernel
theorem dX5_leastHarm_143 : decode cX5_leastHarm 143 = .ok (.aload_n 0, 1) := by decide +kernel
theorem dX5_leastHarm_144 : decode cX5_leastHarm 144 = .ok (.getfield 33, 3) := by decide +kernel
theorem dX5_leastHarm_147 : decode cX5_leastHarm 147 = .ok (.iaload, 1) := by decide +kernel
theorem dX5_leastHarm_148 : decode cX5_leastHarm 148 = .ok (.ireturn, 1) := by decide +kernel
theorem dX5_leastFrom_0 : decode cX5_leastFrom 0 = .ok (.ldc 42, 2) := by decide +kernel
theorem dX5_leastFrom_2 : decode cX5_leastFrom 2 = .ok (.istore_n 3, 1) := by decide +kernel
theorem dX5_leastFrom_3 : decode cX5_leastFrom 3 = .ok (.iconst 0, 1) := by decide +kernel
theorem dX5_leastFrom_4 : decode cX5_leastFrom 4 = .ok (.istore 4, 2) := by decide +kernel
theorem dX5_leastFrom_6 : decode cX5_leastFrom 6 = .ok (.iload 4, 2) := by decide +kernel
theorem dX5_leastFrom_8 : decode cX5_leastFrom 8 = .ok (.aload_n 0, 1) := by decide +kernel
theorem dX5_leastFrom_9 : decode cX5_leastFrom 9 = .ok (.iload_n 1, 1) := by decide +kernel
theorem dX5_leastFrom_10 : decode cX5_leastFrom 10 = .ok (.invokevirtual 46, 3) := by decide +kernel
theorem dX5_leastFrom_13 : decode cX5_leastFrom 13 = .ok (.if_icmp .gt 22, 3) := by decide +kernel
theorem dX5_leastFrom_16 : decode cX5_leastFrom 16 = .ok (.iload_n 3, 1) := by decide +kernel
theorem dX5_leastFrom_17 : decode cX5_leastFrom 17 = .ok (.aload_n 0, 1) := by decide +kernel
theorem dX5_leastFrom_18 : decode cX5_leastFrom 18 = .ok (.iload_n 1, 1) := by decide +kernel
theorem dX5_leastFrom_19 : decode cX5_leastFrom 19 = .ok (.iload_n 2, 1) := by decide +kernel
theorem dX5_leastFrom_20 : decode cX5_leastFrom 20 = .ok (.iload 4, 2) := by decide +kernel
theorem dX5_leastFrom_22 : decode cX5_leastFrom 22 = .ok (.invokevirtual 50, 3) := by decide +kernel
theorem dX5_leastFrom_25 : decode cX5_leastFrom 25 = .ok (.invokestatic 54, 3) := by decide +kernel
theorem dX5_leastFrom_28 : decode cX5_leastFrom 28 = .ok (.istore_n 3, 1) := by decide +kernel
theorem dX5_leastFrom_29 : decode cX5_leastFrom 29 = .ok (.iinc 4 1, 3) := by decide +kernel
theorem dX5_leastFrom_32 : decode cX5_leastFrom 32 = .ok (.goto (-26), 3) := by decide +kernel
theorem dX5_leastFrom_35 : decode cX5_leastFrom 35 = .ok (.iload_n 3, 1) := by decide +kernel
theorem dX5_leastFrom_36 : decode cX5_leastFrom 36 = .ok (.ireturn, 1) := by decide +kernel
theorem dX5_harmWith_0 : decode cX5_harmWith 0 = .ok (.iconst 0, 1) := by decide +kernel
theorem dX5_harmWith_1 : decode cX5_harmWith 1 = .ok (.iload_n 2, 1) := by decide +kernel
theorem dX5_harmWith_2 : decode cX5_harmWith 2 = .ok (.iload_n 3, 1) := by decide +kernel
theorem dX5_harmWith_3 : decode cX5_harmWith 3 = .ok (.isub, 1) := by decide +kernel
theorem dX5_harmWith_4 : decode cX5_harmWith 4 = .ok (.invokestatic 27, 3) := by decide +kernel
theorem dX5_harmWith_7 : decode cX5_harmWith 7 = .ok (.istore 4, 2) := by decide +kernel
theorem dX5_harmWith_9 : decode cX5_harmWith 9 = .ok (.iload_n 3, 1) := by decide +kernel
theorem dX5_harmWith_10 : decode cX5_harmWith 10 = .ok (.iload_n 3, 1) := by decide +kernel
theorem dX5_harmWith_11 : decode cX5_harmWith 11 = .ok (.imul, 1) := by decide +kernel
theorem dX5_harmWith_12 : decode cX5_harmWith 12 = .ok (.aload_n 0, 1) := by decide +kernel
theorem dX5_harmWith_13 : decode cX5_harmWith 13 = .ok (.getfield 9, 3) := by decide +kernel
theorem dX5_harmWith_16 : decode cX5_harmWith 16 = .ok (.aload_n 0, 1) := by decide +kernel
theorem dX5_harmWith_17 : decode cX5_harmWith 17 = .ok (.getfield 9, 3) := by decide +kernel
theorem dX5_harmWith_20 : decode cX5_harmWith 20 = .ok (.getfield 57, 3) := by decide +kernel
theorem dX5_harmWith_23 : decode cX5_harmWith 23 = .ok (.iload_n 1, 1) := by decide +kernel
theorem dX5_harmWith_24 : decode cX5_harmWith 24 = .ok (.iaload, 1) := by decide +kernel
theorem dX5_harmWith_25 : decode cX5_harmWith 25 = .ok (.invokevirtual 60, 3) := by decide +kernel
theorem dX5_harmWith_28 : decode cX5_harmWith 28 = .ok (.imul, 1) := by decide +kernel
theorem dX5_harmWith_29 : decode cX5_harmWith 29 = .ok (.aload_n 0, 1) := by decide +kernel
theorem dX5_harmWith_30 : decode cX5_harmWith 30 = .ok (.getfield 23, 3) := by decide +kernel
theorem dX5_harmWith_33 : decode cX5_harmWith 33 = .ok (.iload_n 1, 1) := by decide +kernel
theorem dX5_harmWith_34 : decode cX5_harmWith 34 = .ok (.iconst 1, 1) := by decide +kernel
theorem dX5_harmWith_35 : decode cX5_harmWith 35 = .ok (.iadd, 1) := by decide +kernel
theorem dX5_harmWith_36 : decode cX5_harmWith 36 = .ok (.bipush 43, 2) := by decide +kernel
theorem dX5_harmWith_38 : decode cX5_harmWith 38 = .ok (.imul, 1) := by decide +kernel
theorem dX5_harmWith_39 : decode cX5_harmWith 39 = .ok (.iload 4, 2) := by decide +kernel
theorem dX5_harmWith_41 : decode cX5_harmWith 41 = .ok (.iadd, 1) := by decide +kernel
theorem dX5_harmWith_42 : decode cX5_harmWith 42 = .ok (.iaload, 1) := by decide +kernel
theorem dX5_harmWith_43 : decode cX5_harmWith 43 = .ok (.iadd, 1) := by decide +kernel
theorem dX5_harmWith_44 : decode cX5_harmWith 44 = .ok (.ireturn, 1) := by decide +kernel
theorem dX5_mostOf_0 : decode cX5_mostOf 0 = .ok (.aload_n 0, 1) := by decide +kernel
theorem dX5_mostOf_1 : decode cX5_mostOf 1 = .ok (.getfield 15, 3) := by decide +kernel
theorem dX5_mostOf_4 : decode cX5_mostOf 4 = .ok (.getfield 63, 3) := by decide +kernel
theorem dX5_mostOf_7 : decode cX5_mostOf 7 = .ok (.iload_n 1, 1) := by decide +kernel
theorem dX5_mostOf_8 : decode cX5_mostOf 8 = .ok (.iaload, 1) := by decide +kernel
theorem dX5_mostOf_9 : decode cX5_mostOf 9 = .ok (.ifCond .le 7, 3) := by decide +kernel
theorem dX5_mostOf_12 : decode cX5_mostOf 12 = .ok (.iconst 0, 1) := by decide +kernel
theorem dX5_mostOf_13 : decode cX5_mostOf 13 = .ok (.goto 17, 3) := by decide +kernel
theorem dX5_mostOf_16 : decode cX5_mostOf 16 = .ok (.iconst 3, 1) := by decide +kernel
theorem dX5_mostOf_17 : decode cX5_mostOf 17 = .ok (.aload_n 0, 1) := by decide +kernel
theorem dX5_mostOf_18 : decode cX5_mostOf 18 = .ok (.getfield 19, 3) := by decide +kernel
theorem dX5_mostOf_21 : decode cX5_mostOf 21 = .ok (.iload_n 1, 1) := by decide +kernel
theorem dX5_mostOf_22 : decode cX5_mostOf 22 = .ok (.invokevirtual 68, 3) := by decide +kernel
theorem dX5_mostOf_25 : decode cX5_mostOf 25 = .ok (.iconst 1, 1) := by decide +kernel
theorem dX5_mostOf_26 : decode cX5_mostOf 26 = .ok (.isub, 1) := by decide +kernel
theorem dX5_mostOf_27 : decode cX5_mostOf 27 = .ok (.invokestatic 54, 3) := by decide +kernel
theorem dX5_mostOf_30 : decode cX5_mostOf 30 = .ok (.ireturn, 1) := by decide +kernel
theorem dX5_squeezedBits_0 : decode cX5_squeezedBits 0 = .ok (.iconst 0, 1) := by decide +kernel
theorem dX5_squeezedBits_1 : decode cX5_squeezedBits 1 = .ok (.istore_n 1, 1) := by decide +kernel
theorem dX5_squeezedBits_2 : decode cX5_squeezedBits 2 = .ok (.aload_n 0, 1) := by decide +kernel
theorem dX5_squeezedBits_3 : decode cX5_squeezedBits 3 = .ok (.getfield 33, 3) := by decide +kernel
theorem dX5_squeezedBits_6 : decode cX5_squeezedBits 6 = .ok (.istore_n 2, 1) := by decide +kernel
theorem dX5_squeezedBits_7 : decode cX5_squeezedBits 7 = .ok (.iconst 0, 1) := by decide +kernel
theorem dX5_squeezedBits_8 : decode cX5_squeezedBits 8 = .ok (.istore_n 3, 1) := by decide +kernel
theorem dX5_squeezedBits_9 : decode cX5_squeezedBits 9 = .ok (.iload_n 3, 1) := by decide +kernel
theorem dX5_squeezedBits_10 : decode cX5_squeezedBits 10 = .ok (.aload_n 0, 1) := by decide +kernel
theorem dX5_squeezedBits_11 : decode cX5_squeezedBits 11 = .ok (.getfield 9, 3) := by decide +kernel
theorem dX5_squeezedBits_14 : decode cX5_squeezedBits 14 = .ok (.getfield 37, 3) := by decide +kernel
theorem dX5_squeezedBits_17 : decode cX5_squeezedBits 17 = .ok (.if_icmp .ge 70, 3) := by decide +kernel
theorem dX5_squeezedBits_20 : decode cX5_squeezedBits 20 = .ok (.iconst 0, 1) := by decide +kernel
theorem dX5_squeezedBits_21 : decode cX5_squeezedBits 21 = .ok (.istore 4, 2) := by decide +kernel
theorem dX5_squeezedBits_23 : decode cX5_squeezedBits 23 = .ok (.iload 4, 2) := by decide +kernel
theorem dX5_squeezedBits_25 : decode cX5_squeezedBits 25 = .ok (.aload_n 0, 1) := by decide +kernel
theorem dX5_squeezedBits_26 : decode cX5_squeezedBits 26 = .ok (.iload_n 3, 1) := by decide +kernel
theorem dX5_squeezedBits_27 : decode cX5_squeezedBits 27 = .ok (.invokevirtual 46, 3) := by decide +kernel
theorem dX5_squeezedBits_30 : decode cX5_squeezedBits 30 = .ok (.if_icmp .ge 31, 3) := by decide +kernel
theorem dX5_squeezedBits_33 : decode cX5_squeezedBits 33 = .ok (.aload_n 0, 1) := by decide +kernel
theorem dX5_squeezedBits_34 : decode cX5_squeezedBits 34 = .ok (.iload_n 3, 1) := by decide +kernel
theorem dX5_squeezedBits_35 : decode cX5_squeezedBits 35 = .ok (.iload_n 2, 1) := by decide +kernel
theorem dX5_squeezedBits_36 : decode cX5_squeezedBits 36 = .ok (.iload 4, 2) := by decide +kernel
theorem dX5_squeezedBits_38 : decode cX5_squeezedBits 38 = .ok (.invokevirtual 50, 3) := by decide +kernel
theorem dX5_squeezedBits_41 : decode cX5_squeezedBits 41 = .ok (.aload_n 0, 1) := by decide +kernel
theorem dX5_squeezedBits_42 : decode cX5_squeezedBits 42 = .ok (.getfield 23, 3) := by decide +kernel
theorem dX5_squeezedBits_45 : decode cX5_squeezedBits 45 = .ok (.iload_n 3, 1) := by decide +kernel
theorem dX5_squeezedBits_46 : decode cX5_squeezedBits 46 = .ok (.bipush 43, 2) := by decide +kernel
theorem dX5_squeezedBits_48 : decode cX5_squeezedBits 48 = .ok (.imul, 1) := by decide +kernel
theorem dX5_squeezedBits_49 : decode cX5_squeezedBits 49 = .ok (.iload_n 2, 1) := by decide +kernel
theorem dX5_squeezedBits_50 : decode cX5_squeezedBits 50 = .ok (.iadd, 1) := by decide +kernel
theorem dX5_squeezedBits_51 : decode cX5_squeezedBits 51 = .ok (.iaload, 1) := by decide +kernel
theorem dX5_squeezedBits_52 : decode cX5_squeezedBits 52 = .ok (.if_icmp .eq 9, 3) := by decide +kernel
theorem dX5_squeezedBits_55 : decode cX5_squeezedBits 55 = .ok (.iinc 4 1, 3) := by decide +kernel
theorem dX5_squeezedBits_58 : decode cX5_squeezedBits 58 = .ok (.goto (-35), 3) := by decide +kernel
theorem dX5_squeezedBits_61 : decode cX5_squeezedBits 61 = .ok (.iload 4, 2) := by decide +kernel
theorem dX5_squeezedBits_63 : decode cX5_squeezedBits 63 = .ok (.ifCond .le 9, 3) := by decide +kernel
theorem dX5_squeezedBits_66 : decode cX5_squeezedBits 66 = .ok (.iload_n 1, 1) := by decide +kernel
theorem dX5_squeezedBits_67 : decode cX5_squeezedBits 67 = .ok (.iconst 1, 1) := by decide +kernel
theorem dX5_squeezedBits_68 : decode cX5_squeezedBits 68 = .ok (.iload_n 3, 1) := by decide +kernel
theorem dX5_squeezedBits_69 : decode cX5_squeezedBits 69 = .ok (.ishl, 1) := by decide +kernel
theorem dX5_squeezedBits_70 : decode cX5_squeezedBits 70 = .ok (.ior, 1) := by decide +kernel
theorem dX5_squeezedBits_71 : decode cX5_squeezedBits 71 = .ok (.istore_n 1, 1) := by decide +kernel
theorem dX5_squeezedBits_72 : decode cX5_squeezedBits 72 = .ok (.iconst 0, 1) := by decide +kernel
theorem dX5_squeezedBits_73 : decode cX5_squeezedBits 73 = .ok (.iload_n 2, 1) := by decide +kernel
theorem dX5_squeezedBits_74 : decode cX5_squeezedBits 74 = .ok (.iload 4, 2) := by decide +kernel
theorem dX5_squeezedBits_76 : decode cX5_squeezedBits 76 = .ok (.isub, 1) := by decide +kernel
theorem dX5_squeezedBits_77 : decode cX5_squeezedBits 77 = .ok (.invokestatic 27, 3) := by decide +kernel
theorem dX5_squeezedBits_80 : decode cX5_squeezedBits 80 = .ok (.istore_n 2, 1) := by decide +kernel
theorem dX5_squeezedBits_81 : decode cX5_squeezedBits 81 = .ok (.iinc 3 1, 3) := by decide +kernel
theorem dX5_squeezedBits_84 : decode cX5_squeezedBits 84 = .ok (.goto (-75), 3) := by decide +kernel
theorem dX5_squeezedBits_87 : decode cX5_squeezedBits 87 = .ok (.iload_n 1, 1) := by decide +kernel
theorem dX5_squeezedBits_88 : decode cX5_squeezedBits 88 = .ok (.ireturn, 1) := by decide +kernel
theorem dX6_init_0 : decode cX6_init 0 = .ok (.aload_n 0, 1) := by decide +kernel
theorem dX6_init_1 : decode cX6_init 1 = .ok (.invokespecial 3, 3) := by decide +kernel
theorem dX6_init_4 : decode cX6_init 4 = .ok (.aload_n 0, 1) := by decide +kernel
theorem dX6_init_5 : decode cX6_init 5 = .ok (.bipush 12, 2) := by decide +kernel
theorem dX6_init_7 : decode cX6_init 7 = .ok (.newarray .int, 2) := by decide +kernel
theorem dX6_init_9 : decode cX6_init 9 = .ok (.putfield 9, 3) := by decide +kernel
theorem dX6_init_12 : decode cX6_init 12 = .ok (.aload_n 0, 1) := by decide +kernel
theorem dX6_init_13 : decode cX6_init 13 = .ok (.bipush 12, 2) := by decide +kernel
theorem dX6_init_15 : decode cX6_init 15 = .ok (.newarray .int, 2) := by decide +kernel
theorem dX6_init_17 : decode cX6_init 17 = .ok (.putfield 15, 3) := by decide +kernel
theorem dX6_init_20 : decode cX6_init 20 = .ok (.aload_n 0, 1) := by decide +kernel
theorem dX6_init_21 : decode cX6_init 21 = .ok (.bipush 60, 2) := by decide +kernel
theorem dX6_init_23 : decode cX6_init 23 = .ok (.newarray .int, 2) := by decide +kernel
theorem dX6_init_25 : decode cX6_init 25 = .ok (.putfield 18, 3) := by decide +kernel
theorem dX6_init_28 : decode cX6_init 28 = .ok (.aload_n 0, 1) := by decide +kernel
theorem dX6_init_29 : decode cX6_init 29 = .ok (.bipush 60, 2) := by decide +kernel
theorem dX6_init_31 : decode cX6_init 31 = .ok (.newarray .int, 2) := by decide +kernel
theorem dX6_init_33 : decode cX6_init 33 = .ok (.putfield 21, 3) := by decide +kernel
theorem dX6_init_36 : decode cX6_init 36 = .ok (.aload_n 0, 1) := by decide +kernel
theorem dX6_init_37 : decode cX6_init 37 = .ok (.bipush 14, 2) := by decide +kernel
theorem dX6_init_39 : decode cX6_init 39 = .ok (.newarray .int, 2) := by decide +kernel
theorem dX6_init_41 : decode cX6_init 41 = .ok (.putfield 24, 3) := by decide +kernel
theorem dX6_init_44 : decode cX6_init 44 = .ok (.aload_n 0, 1) := by decide +kernel
theorem dX6_init_45 : decode cX6_init 45 = .ok (.bipush 60, 2) := by decide +kernel
theorem dX6_init_47 : decode cX6_init 47 = .ok (.putfield 27, 3) := by decide +kernel
theorem dX6_init_50 : decode cX6_init 50 = .ok (.aload_n 0, 1) := by decide +kernel
theorem dX6_init_51 : decode cX6_init 51 = .ok (.iconst 2, 1) := by decide +kernel
theorem dX6_init_52 : decode cX6_init 52 = .ok (.putfield 31, 3) := by decide +kernel
theorem dX6_init_55 : decode cX6_init 55 = .ok (.aload_n 0, 1) := by decide +kernel
theorem dX6_init_56 : decode cX6_init 56 = .ok (.bipush 12, 2) := by decide +kernel
theorem dX6_init_58 : decode cX6_init 58 = .ok (.putfield 34, 3) := by decide +kernel
theorem dX6_init_61 : decode cX6_init 61 = .ok (.aload_n 0, 1) := by decide +kernel
theorem dX6_init_62 : decode cX6_init 62 = .ok (.bipush 50, 2) := by decide +kernel
theorem dX6_init_64 : decode cX6_init 64 = .ok (.putfield 37, 3) := by decide +kernel
theorem dX6_init_67 : decode cX6_init 67 = .ok (.aload_n 0, 1) := by decide +kernel
theorem dX6_init_68 : decode cX6_init 68 = .ok (.bipush 6, 2) := by decide +kernel
theorem dX6_init_70 : decode cX6_init 70 = .ok (.newarray .int, 2) := by decide +kernel
theorem dX6_init_72 : decode cX6_init 72 = .ok (.putfield 40, 3) := by decide +kernel
theorem dX6_init_75 : decode cX6_init 75 = .ok (.aload_n 0, 1) := by decide +kernel
theorem dX6_init_76 : decode cX6_init 76 = .ok (.bipush 6, 2) := by decide +kernel
theorem dX6_init_78 : decode cX6_init 78 = .ok (.newarray .int, 2) := by decide +kernel
theorem dX6_init_80 : decode cX6_init 80 = .ok (.putfield 43, 3) := by decide +kernel
theorem dX6_init_83 : decode cX6_init 83 = .ok (.aload_n 0, 1) := by decide +kernel
theorem dX6_init_84 : decode cX6_init 84 = .ok (.bipush 8, 2) := by decide +kernel
theorem dX6_init_86 : decode cX6_init 86 = .ok (.newarray .int, 2) := by decide +kernel
theorem dX6_init_88 : decode cX6_init 88 = .ok (.putfield 46, 3) := by decide +kernel
theorem dX6_init_91 : decode cX6_init 91 = .ok (.return_, 1) := by decide +kernel
theorem dX6_copyFrom_0 : decode cX6_copyFrom 0 = .ok (.aload_n 0, 1) := by decide +kernel
theorem dX6_copyFrom_1 : decode cX6_copyFrom 1 = .ok (.aload_n 1, 1) := by decide +kernel
theorem dX6_copyFrom_2 : decode cX6_copyFrom 2 = .ok (.getfield 49, 3) := by decide +kernel
theorem dX6_copyFrom_5 : decode cX6_copyFrom 5 = .ok (.putfield 49, 3) := by decide +kernel
theorem dX6_copyFrom_8 : decode cX6_copyFrom 8 = .ok (.aload_n 1, 1) := by decide +kernel
theorem dX6_copyFrom_9 : decode cX6_copyFrom 9 = .ok (.getfield 9, 3) := by decide +kernel
theorem dX6_copyFrom_12 : decode cX6_copyFrom 12 = .ok (.iconst 0, 1) := by decide +kernel
theorem dX6_copyFrom_13 : decode cX6_copyFrom 13 = .ok (.aload_n 0, 1) := by decide +kernel
theorem dX6_copyFrom_14 : decode cX6_copyFrom 14 = .ok (.getfield 9, 3) := by decide +kernel
theorem dX6_copyFrom_17 : decode cX6_copyFrom 17 = .ok (.iconst 0, 1) := by decide +kernel
theorem dX6_copyFrom_18 : decode cX6_copyFrom 18 = .ok (.bipush 12, 2) := by decide +kernel
theorem dX6_copyFrom_20 : decode cX6_copyFrom 20 = .ok (.invokestatic 52, 3) := by decide +kernel
theorem dX6_copyFrom_23 : decode cX6_copyFrom 23 = .ok (.aload_n 1, 1) := by decide +kernel
theorem dX6_copyFrom_24 : decode cX6_copyFrom 24 = .ok (.getfield 15, 3) := by decide +kernel
theorem dX6_copyFrom_27 : decode cX6_copyFrom 27 = .ok (.iconst 0, 1) := by decide +kernel
theorem dX6_copyFrom_28 : decode cX6_copyFrom 28 = .ok (.aload_n 0, 1) := by decide +kernel
theorem dX6_copyFrom_29 : decode cX6_copyFrom 29 = .ok (.getfield 15, 3) := by decide +kernel
theorem dX6_copyFrom_32 : decode cX6_copyFrom 32 = .ok (.iconst 0, 1) := by decide +kernel
theorem dX6_copyFrom_33 : decode cX6_copyFrom 33 = .ok (.bipush 12, 2) := by decide +kernel
theorem dX6_copyFrom_35 : decode cX6_copyFrom 35 = .ok (.invokestatic 52, 3) := by decide +kernel
theorem dX6_copyFrom_38 : decode cX6_copyFrom 38 = .ok (.aload_n 1, 1) := by decide +kernel
theorem dX6_copyFrom_39 : decode cX6_copyFrom 39 = .ok (.getfield 18, 3) := by decide +kernel
theorem dX6_copyFrom_42 : decode cX6_copyFrom 42 = .ok (.iconst 0, 1) := by decide +kernel
theorem dX6_copyFrom_43 : decode cX6_copyFrom 43 = .ok (.aload_n 0, 1) := by decide +kernel
theorem dX6_copyFrom_44 : decode cX6_copyFrom 44 = .ok (.getfield 18, 3) := by decide +kernel
theorem dX6_copyFrom_47 : decode cX6_copyFrom 47 = .ok (.iconst 0, 1) := by decide +kernel
theorem dX6_copyFrom_48 : decode cX6_copyFrom 48 = .ok (.bipush 60, 2) := by decide +kernel
theorem dX6_copyFrom_50 : decode cX6_copyFrom 50 = .ok (.invokestatic 52, 3) := by decide +kernel
theorem dX6_copyFrom_53 : decode cX6_copyFrom 53 = .ok (.aload_n 1, 1) := by decide +kernel
theorem dX6_copyFrom_54 : decode cX6_copyFrom 54 = .ok (.getfield 21, 3) := by decide +kernel
theorem dX6_copyFrom_57 : decode cX6_copyFrom 57 = .ok (.iconst 0, 1) := by decide +kernel
theorem dX6_copyFrom_58 : decode cX6_copyFrom 58 = .ok (.aload_n 0, 1) := by decide +kernel
theorem dX6_copyFrom_59 : decode cX6_copyFrom 59 = .ok (.getfield 21, 3) := by decide +kernel
theorem dX6_copyFrom_62 : decode cX6_copyFrom 62 = .ok (.iconst 0, 1) := by decide +kernel
theorem dX6_copyFrom_63 : decode cX6_copyFrom 63 = .ok (.bipush 60, 2) := by decide +kernel
theorem dX6_copyFrom_65 : decode cX6_copyFrom 65 = .ok (.invokestatic 52, 3) := by decide +kernel
theorem dX6_copyFrom_68 : decode cX6_copyFrom 68 = .ok (.aload_n 0, 1) := by decide +kernel
theorem dX6_copyFrom_69 : decode cX6_copyFrom 69 = .ok (.aload_n 1, 1) := by decide +kernel
theorem dX6_copyFrom_70 : decode cX6_copyFrom 70 = .ok (.getfield 58, 3) := by decide +kernel
theorem dX6_copyFrom_73 : decode cX6_copyFrom 73 = .ok (.putfield 58, 3) := by decide +kernel
theorem dX6_copyFrom_76 : decode cX6_copyFrom 76 = .ok (.aload_n 1, 1) := by decide +kernel
theorem dX6_copyFrom_77 : decode cX6_copyFrom 77 = .ok (.getfield 24, 3) := by decide +kernel
theorem dX6_copyFrom_80 : decode cX6_copyFrom 80 = .ok (.iconst 0, 1) := by decide +kernel
theorem dX6_copyFrom_81 : decode cX6_copyFrom 81 = .ok (.aload_n 0, 1) := by decide +kernel
theorem dX6_copyFrom_82 : decode cX6_copyFrom 82 = .ok (.getfield 24, 3) := by decide +kernel
theorem dX6_copyFrom_85 : decode cX6_copyFrom 85 = .ok (.iconst 0, 1) := by decide +kernel
theorem dX6_copyFrom_86 : decode cX6_copyFrom 86 = .ok (.bipush 14, 2) := by decide +kernel
theorem dX6_copyFrom_88 : decode cX6_copyFrom 88 = .ok (.invokestatic 52, 3) := by decide +kernel
theorem dX6_copyFrom_91 : decode cX6_copyFrom 91 = .ok (.aload_n 0, 1) := by decide +kernel
theorem dX6_copyFrom_92 : decode cX6_copyFrom 92 = .ok (.aload_n 1, 1) := by decide +kernel
theorem dX6_copyFrom_93 : decode cX6_copyFrom 93 = .ok (.getfield 27, 3) := by decide +kernel
theorem dX6_copyFrom_96 : decode cX6_copyFrom 96 = .ok (.putfield 27, 3) := by decide +kernel
theorem dX6_copyFrom_99 : decode cX6_copyFrom 99 = .ok (.aload_n 0, 1) := by decide +kernel
theorem dX6_copyFrom_100 : decode cX6_copyFrom 100 = .ok (.aload_n 1, 1) := by decide +kernel
theorem dX6_copyFrom_101 : decode cX6_copyFrom 101 = .ok (.getfield 31, 3) := by decide +kernel
theorem dX6_copyFrom_104 : decode cX6_copyFrom 104 = .ok (.putfield 31, 3) := by decide +kernel
theorem dX6_copyFrom_107 : decode cX6_copyFrom 107 = .ok (.aload_n 0, 1) := by decide +kernel
theorem dX6_copyFrom_108 : decode cX6_copyFrom 108 = .ok (.aload_n 1, 1) := by decide +kernel
theorem dX6_copyFrom_109 : decode cX6_copyFrom 109 = .ok (.getfield 34, 3) := by decide +kernel
theorem dX6_copyFrom_112 : decode cX6_copyFrom 112 = .ok (.putfield 34, 3) := by decide +kernel
theorem dX6_copyFrom_115 : decode cX6_copyFrom 115 = .ok (.aload_n 0, 1) := by decide +kernel
theorem dX6_copyFrom_116 : decode cX6_copyFrom 116 = .ok (.aload_n 1, 1) := by decide +kernel
theorem dX6_copyFrom_117 : decode cX6_copyFrom 117 = .ok (.getfield 37, 3) := by decide +kernel
theorem dX6_copyFrom_120 : decode cX6_copyFrom 120 = .ok (.putfield 37, 3) := by decide +kernel
theorem dX6_copyFrom_123 : decode cX6_copyFrom 123 = .ok (.aload_n 0, 1) := by decide +kernel
theorem dX6_copyFrom_124 : decode cX6_copyFrom 124 = .ok (.aload_n 1, 1) := by decide +kernel
theorem dX6_copyFrom_125 : decode cX6_copyFrom 125 = .ok (.getfield 61, 3) := by decide +kernel
theorem dX6_copyFrom_128 : decode cX6_copyFrom 128 = .ok (.putfield 61, 3) := by decide +kernel
theorem dX6_copyFrom_131 : decode cX6_copyFrom 131 = .ok (.aload_n 1, 1) := by decide +kernel
theorem dX6_copyFrom_132 : decode cX6_copyFrom 132 = .ok (.getfield 40, 3) := by decide +kernel
theorem dX6_copyFrom_135 : decode cX6_copyFrom 135 = .ok (.iconst 0, 1) := by decide +kernel
theorem dX6_copyFrom_136 : decode cX6_copyFrom 136 = .ok (.aload_n 0, 1) := by decide +kernel
theorem dX6_copyFrom_137 : decode cX6_copyFrom 137 = .ok (.getfield 40, 3) := by decide +kernel
theorem dX6_copyFrom_140 : decode cX6_copyFrom 140 = .ok (.iconst 0, 1) := by decide +kernel
theorem dX6_copyFrom_141 : decode cX6_copyFrom 141 = .ok (.bipush 6, 2) := by decide +kernel
theorem dX6_copyFrom_143 : decode cX6_copyFrom 143 = .ok (.invokestatic 52, 3) := by decide +kernel
theorem dX6_copyFrom_146 : decode cX6_copyFrom 146 = .ok (.aload_n 1, 1) := by decide +kernel
theorem dX6_copyFrom_147 : decode cX6_copyFrom 147 = .ok (.getfield 43, 3) := by decide +kernel
theorem dX6_copyFrom_150 : decode cX6_copyFrom 150 = .ok (.iconst 0, 1) := by decide +kernel
theorem dX6_copyFrom_151 : decode cX6_copyFrom 151 = .ok (.aload_n 0, 1) := by decide +kernel
theorem dX6_copyFrom_152 : decode cX6_copyFrom 152 = .ok (.getfield 43, 3) := by decide +kernel
theorem dX6_copyFrom_155 : decode cX6_copyFrom 155 = .ok (.iconst 0, 1) := by decide +kernel
theorem dX6_copyFrom_156 : decode cX6_copyFrom 156 = .ok (.bipush 6, 2) := by decide +kernel
theorem dX6_copyFrom_158 : decode cX6_copyFrom 158 = .ok (.invokestatic 52, 3) := by decide +kernel
theorem dX6_copyFrom_161 : decode cX6_copyFrom 161 = .ok (.aload_n 0, 1) := by decide +kernel
theorem dX6_copyFrom_162 : decode cX6_copyFrom 162 = .ok (.aload_n 1, 1) := by decide +kernel
theorem dX6_copyFrom_163 : decode cX6_copyFrom 163 = .ok (.getfield 64, 3) := by decide +kernel
theorem dX6_copyFrom_166 : decode cX6_copyFrom 166 = .ok (.putfield 64, 3) := by decide +kernel
theorem dX6_copyFrom_169 : decode cX6_copyFrom 169 = .ok (.aload_n 1, 1) := by decide +kernel
theorem dX6_copyFrom_170 : decode cX6_copyFrom 170 = .ok (.getfield 46, 3) := by decide +kernel
theorem dX6_copyFrom_173 : decode cX6_copyFrom 173 = .ok (.iconst 0, 1) := by decide +kernel
theorem dX6_copyFrom_174 : decode cX6_copyFrom 174 = .ok (.aload_n 0, 1) := by decide +kernel
theorem dX6_copyFrom_175 : decode cX6_copyFrom 175 = .ok (.getfield 46, 3) := by decide +kernel
theorem dX6_copyFrom_178 : decode cX6_copyFrom 178 = .ok (.iconst 0, 1) := by decide +kernel
theorem dX6_copyFrom_179 : decode cX6_copyFrom 179 = .ok (.bipush 8, 2) := by decide +kernel
theorem dX6_copyFrom_181 : decode cX6_copyFrom 181 = .ok (.invokestatic 52, 3) := by decide +kernel
theorem dX6_copyFrom_184 : decode cX6_copyFrom 184 = .ok (.aload_n 0, 1) := by decide +kernel
theorem dX6_copyFrom_185 : decode cX6_copyFrom 185 = .ok (.aload_n 1, 1) := by decide +kernel
theorem dX6_copyFrom_186 : decode cX6_copyFrom 186 = .ok (.getfield 67, 3) := by decide +kernel
theorem dX6_copyFrom_189 : decode cX6_copyFrom 189 = .ok (.putfield 67, 3) := by decide +kernel
theorem dX6_copyFrom_192 : decode cX6_copyFrom 192 = .ok (.return_, 1) := by decide +kernel
theorem dX6_gapCount_0 : decode cX6_gapCount 0 = .ok (.aload_n 0, 1) := by decide +kernel
theorem dX6_gapCount_1 : decode cX6_gapCount 1 = .ok (.getfield 58, 3) := by decide +kernel
theorem dX6_gapCount_4 : decode cX6_gapCount 4 = .ok (.iconst 1, 1) := by decide +kernel
theorem dX6_gapCount_5 : decode cX6_gapCount 5 = .ok (.if_icmp .le 12, 3) := by decide +kernel
theorem dX6_gapCount_8 : decode cX6_gapCount 8 = .ok (.aload_n 0, 1) := by decide +kernel
theorem dX6_gapCount_9 : decode cX6_gapCount 9 = .ok (.getfield 58, 3) := by decide +kernel
theorem dX6_gapCount_12 : decode cX6_gapCount 12 = .ok (.iconst 1, 1) := by decide +kernel
theorem dX6_gapCount_13 : decode cX6_gapCount 13 = .ok (.isub, 1) := by decide +kernel
theorem dX6_gapCount_14 : decode cX6_gapCount 14 = .ok (.goto 4, 3) := by decide +kernel
theorem dX6_gapCount_17 : decode cX6_gapCount 17 = .ok (.iconst 0, 1) := by decide +kernel
theorem dX6_gapCount_18 : decode cX6_gapCount 18 = .ok (.ireturn, 1) := by decide +kernel
theorem dX6_leftOf_0 : decode cX6_leftOf 0 = .ok (.aload_n 0, 1) := by decide +kernel
theorem dX6_leftOf_1 : decode cX6_leftOf 1 = .ok (.getfield 18, 3) := by decide +kernel
theorem dX6_leftOf_4 : decode cX6_leftOf 4 = .ok (.iload_n 1, 1) := by decide +kernel
theorem dX6_leftOf_5 : decode cX6_leftOf 5 = .ok (.iconst 5, 1) := by decide +kernel
theorem dX6_leftOf_6 : decode cX6_leftOf 6 = .ok (.imul, 1) := by decide +kernel
theorem dX6_leftOf_7 : decode cX6_leftOf 7 = .ok (.iload_n 2, 1) := by decide +kernel
theorem dX6_leftOf_8 : decode cX6_leftOf 8 = .ok (.iadd, 1) := by decide +kernel
theorem dX6_leftOf_9 : decode cX6_leftOf 9 = .ok (.iaload, 1) := by decide +kernel
theorem dX6_leftOf_10 : decode cX6_leftOf 10 = .ok (.ireturn, 1) := by decide +kernel
theorem dX6_rightOf_0 : decode cX6_rightOf 0 = .ok (.aload_n 0, 1) := by decide +kernel
theorem dX6_rightOf_1 : decode cX6_rightOf 1 = .ok (.getfield 21, 3) := by decide +kernel
theorem dX6_rightOf_4 : decode cX6_rightOf 4 = .ok (.iload_n 1, 1) := by decide +kernel
theorem dX6_rightOf_5 : decode cX6_rightOf 5 = .ok (.iconst 5, 1) := by decide +kernel
theorem dX6_rightOf_6 : decode cX6_rightOf 6 = .ok (.imul, 1) := by decide +kernel
theorem dX6_rightOf_7 : decode cX6_rightOf 7 = .ok (.iload_n 2, 1) := by decide +kernel
theorem dX6_rightOf_8 : decode cX6_rightOf 8 = .ok (.iadd, 1) := by decide +kernel
theorem dX6_rightOf_9 : decode cX6_rightOf 9 = .ok (.iaload, 1) := by decide +kernel
theorem dX6_rightOf_10 : decode cX6_rightOf 10 = .ok (.ireturn, 1) := by decide +kernel
theorem dX6_inkOf_0 : decode cX6_inkOf 0 = .ok (.iconst 0, 1) := by decide +kernel
theorem dX6_inkOf_1 : decode cX6_inkOf 1 = .ok (.istore_n 2, 1) := by decide +kernel
theorem dX6_inkOf_2 : decode cX6_inkOf 2 = .ok (.iconst 0, 1) := by decide +kernel
theorem dX6_inkOf_3 : decode cX6_inkOf 3 = .ok (.istore_n 3, 1) := by decide +kernel
theorem dX6_inkOf_4 : decode cX6_inkOf 4 = .ok (.iload_n 3, 1) := by decide +kernel
theorem dX6_inkOf_5 : decode cX6_inkOf 5 = .ok (.iconst 5, 1) := by decide +kernel
theorem dX6_inkOf_6 : decode cX6_inkOf 6 = .ok (.if_icmp .ge 32, 3) := by decide +kernel
theorem dX6_inkOf_9 : decode cX6_inkOf 9 = .ok (.iload_n 2, 1) := by decide +kernel
theorem dX6_inkOf_10 : decode cX6_inkOf 10 = .ok (.aload_n 0, 1) := by decide +kernel
theorem dX6_inkOf_11 : decode cX6_inkOf 11 = .ok (.getfield 15, 3) := by decide +kernel
theorem dX6_inkOf_14 : decode cX6_inkOf 14 = .ok (.iload_n 1, 1) := by decide +kernel
theorem dX6_inkOf_15 : decode cX6_inkOf 15 = .ok (.iaload, 1) := by decide +kernel
theorem dX6_inkOf_16 : decode cX6_inkOf 16 = .ok (.aload_n 0, 1) := by decide +kernel
theorem dX6_inkOf_17 : decode cX6_inkOf 17 = .ok (.iload_n 1, 1) := by decide +kernel
theorem dX6_inkOf_18 : decode cX6_inkOf 18 = .ok (.iload_n 3, 1) := by decide +kernel
theorem dX6_inkOf_19 : decode cX6_inkOf 19 = .ok (.invokevirtual 70, 3) := by decide +kernel
theorem dX6_inkOf_22 : decode cX6_inkOf 22 = .ok (.isub, 1) := by decide +kernel
theorem dX6_inkOf_23 : decode cX6_inkOf 23 = .ok (.aload_n 0, 1) := by decide +kernel
theorem dX6_inkOf_24 : decode cX6_inkOf 24 = .ok (.iload_n 1, 1) := by decide +kernel
theorem dX6_inkOf_25 : decode cX6_inkOf 25 = .ok (.iload_n 3, 1) := by decide +kernel
theorem dX6_inkOf_26 : decode cX6_inkOf 26 = .ok (.invokevirtual 74, 3) := by decide +kernel
theorem dX6_inkOf_29 : decode cX6_inkOf 29 = .ok (.isub, 1) := by decide +kernel
theorem dX6_inkOf_30 : decode cX6_inkOf 30 = .ok (.iadd, 1) := by decide +kernel
theorem dX6_inkOf_31 : decode cX6_inkOf 31 = .ok (.istore_n 2, 1) := by decide +kernel
theorem dX6_inkOf_32 : decode cX6_inkOf 32 = .ok (.iinc 3 1, 3) := by decide +kernel
theorem dX6_inkOf_35 : decode cX6_inkOf 35 = .ok (.goto (-31), 3) := by decide +kernel
theorem dX6_inkOf_38 : decode cX6_inkOf 38 = .ok (.iload_n 2, 1) := by decide +kernel
theorem dX6_inkOf_39 : decode cX6_inkOf 39 = .ok (.ireturn, 1) := by decide +kernel
theorem dX7_init_0 : decode cX7_init 0 = .ok (.aload_n 0, 1) := by decide +kernel
theorem dX7_init_1 : decode cX7_init 1 = .ok (.aload_n 1, 1) := by decide +kernel
theorem dX7_init_2 : decode cX7_init 2 = .ok (.bipush 14, 2) := by decide +kernel
theorem dX7_init_4 : decode cX7_init 4 = .ok (.invokespecial 5, 3) := by decide +kernel
theorem dX7_init_7 : decode cX7_init 7 = .ok (.aload_n 0, 1) := by decide +kernel
theorem dX7_init_8 : decode cX7_init 8 = .ok (.new 11, 3) := by decide +kernel
theorem dX7_init_11 : decode cX7_init 11 = .ok (.dup, 1) := by decide +kernel
theorem dX7_init_12 : decode cX7_init 12 = .ok (.invokespecial 13, 3) := by decide +kernel
theorem dX7_init_15 : decode cX7_init 15 = .ok (.putfield 16, 3) := by decide +kernel
theorem dX7_init_18 : decode cX7_init 18 = .ok (.return_, 1) := by decide +kernel
theorem dX7_beginFrom_0 : decode cX7_beginFrom 0 = .ok (.aload_n 0, 1) := by decide +kernel
theorem dX7_beginFrom_1 : decode cX7_beginFrom 1 = .ok (.getfield 16, 3) := by decide +kernel
theorem dX7_beginFrom_4 : decode cX7_beginFrom 4 = .ok (.aload_n 1, 1) := by decide +kernel
theorem dX7_beginFrom_5 : decode cX7_beginFrom 5 = .ok (.invokevirtual 20, 3) := by decide +kernel
theorem dX7_beginFrom_8 : decode cX7_beginFrom 8 = .ok (.aload_n 0, 1) := by decide +kernel
theorem dX7_beginFrom_9 : decode cX7_beginFrom 9 = .ok (.iconst 0, 1) := by decide +kernel
theorem dX7_beginFrom_10 : decode cX7_beginFrom 10 = .ok (.putfield 24, 3) := by decide +kernel
theorem dX7_beginFrom_13 : decode cX7_beginFrom 13 = .ok (.return_, 1) := by decide +kernel
theorem dX7_readsLine_0 : decode cX7_readsLine 0 = .ok (.aload_n 0, 1) := by decide +kernel
theorem dX7_readsLine_1 : decode cX7_readsLine 1 = .ok (.getfield 28, 3) := by decide +kernel
theorem dX7_readsLine_4 : decode cX7_readsLine 4 = .ok (.ldc 32, 2) := by decide +kernel
theorem dX7_readsLine_6 : decode cX7_readsLine 6 = .ok (.invokevirtual 34, 3) := by decide +kernel
theorem dX7_readsLine_9 : decode cX7_readsLine 9 = .ok (.ifCond .eq 8, 3) := by decide +kernel
theorem dX7_readsLine_12 : decode cX7_readsLine 12 = .ok (.aload_n 0, 1) := by decide +kernel
theorem dX7_readsLine_13 : decode cX7_readsLine 13 = .ok (.invokevirtual 40, 3) := by decide +kernel
theorem dX7_readsLine_16 : decode cX7_readsLine 16 = .ok (.ireturn, 1) := by decide +kernel
theorem dX7_readsLine_17 : decode cX7_readsLine 17 = .ok (.aload_n 0, 1) := by decide +kernel
theorem dX7_readsLine_18 : decode cX7_readsLine 18 = .ok (.getfield 28, 3) := by decide +kernel
theorem dX7_readsLine_21 : decode cX7_readsLine 21 = .ok (.ldc 44, 2) := by decide +kernel
theorem dX7_readsLine_23 : decode cX7_readsLine 23 = .ok (.invokevirtual 34, 3) := by decide +kernel
theorem dX7_readsLine_26 : decode cX7_readsLine 26 = .ok (.ifCond .eq 8, 3) := by decide +kernel
theorem dX7_readsLine_29 : decode cX7_readsLine 29 = .ok (.aload_n 0, 1) := by decide +kernel
theorem dX7_readsLine_30 : decode cX7_readsLine 30 = .ok (.invokevirtual 46, 3) := by decide +kernel
theorem dX7_readsLine_33 : decode cX7_readsLine 33 = .ok (.ireturn, 1) := by decide +kernel
theorem dX7_readsLine_34 : decode cX7_readsLine 34 = .ok (.aload_n 0, 1) := by decide +kernel
theorem dX7_readsLine_35 : decode cX7_readsLine 35 = .ok (.getfield 28, 3) := by decide +kernel
theorem dX7_readsLine_38 : decode cX7_readsLine 38 = .ok (.ldc 49, 2) := by decide +kernel
theorem dX7_readsLine_40 : decode cX7_readsLine 40 = .ok (.invokevirtual 34, 3) := by decide +kernel
theorem dX7_readsLine_43 : decode cX7_readsLine 43 = .ok (.ifCond .eq 8, 3) := by decide +kernel
theorem dX7_readsLine_46 : decode cX7_readsLine 46 = .ok (.aload_n 0, 1) := by decide +kernel
theorem dX7_readsLine_47 : decode cX7_readsLine 47 = .ok (.invokevirtual 51, 3) := by decide +kernel
theorem dX7_readsLine_50 : decode cX7_readsLine 50 = .ok (.ireturn, 1) := by decide +kernel
theorem dX7_readsLine_51 : decode cX7_readsLine 51 = .ok (.aload_n 0, 1) := by decide +kernel
theorem dX7_readsLine_52 : decode cX7_readsLine 52 = .ok (.getfield 28, 3) := by decide +kernel
theorem dX7_readsLine_55 : decode cX7_readsLine 55 = .ok (.ldc 54, 2) := by decide +kernel
theorem dX7_readsLine_57 : decode cX7_readsLine 57 = .ok (.invokevirtual 56, 3) := by decide +kernel
theorem dX7_readsLine_60 : decode cX7_readsLine 60 = .ok (.ifCond .eq 8, 3) := by decide +kernel
theorem dX7_readsLine_63 : decode cX7_readsLine 63 = .ok (.aload_n 0, 1) := by decide +kernel
theorem dX7_readsLine_64 : decode cX7_readsLine 64 = .ok (.invokevirtual 59, 3) := by decide +kernel
theorem dX7_readsLine_67 : decode cX7_readsLine 67 = .ok (.ireturn, 1) := by decide +kernel
theorem dX7_readsLine_68 : decode cX7_readsLine 68 = .ok (.aload_n 0, 1) := by decide +kernel
theorem dX7_readsLine_69 : decode cX7_readsLine 69 = .ok (.getfield 28, 3) := by decide +kernel
theorem dX7_readsLine_72 : decode cX7_readsLine 72 = .ok (.ldc 62, 2) := by decide +kernel
theorem dX7_readsLine_74 : decode cX7_readsLine 74 = .ok (.invokevirtual 56, 3) := by decide +kernel
theorem dX7_readsLine_77 : decode cX7_readsLine 77 = .ok (.ifCond .eq 34, 3) := by decide +kernel
theorem dX7_readsLine_80 : decode cX7_readsLine 80 = .ok (.aload_n 0, 1) := by decide +kernel
theorem dX7_readsLine_81 : decode cX7_readsLine 81 = .ok (.getfield 16, 3) := by decide +kernel
theorem dX7_readsLine_84 : decode cX7_readsLine 84 = .ok (.aload_n 0, 1) := by decide +kernel
theorem dX7_readsLine_85 : decode cX7_readsLine 85 = .ok (.iconst 1, 1) := by decide +kernel
theorem dX7_readsLine_86 : decode cX7_readsLine 86 = .ok (.bipush 99, 2) := by decide +kernel
theorem dX7_readsLine_88 : decode cX7_readsLine 88 = .ok (.invokevirtual 64, 3) := by decide +kernel
theorem dX7_readsLine_91 : decode cX7_readsLine 91 = .ok (.putfield 68, 3) := by decide +kernel
theorem dX7_readsLine_94 : decode cX7_readsLine 94 = .ok (.aload_n 0, 1) := by decide +kernel
theorem dX7_readsLine_95 : decode cX7_readsLine 95 = .ok (.getfield 16, 3) := by decide +kernel
theorem dX7_readsLine_98 : decode cX7_readsLine 98 = .ok (.getfield 68, 3) := by decide +kernel
theorem dX7_readsLine_101 : decode cX7_readsLine 101 = .ok (.iconst (-1), 1) := by decide +kernel
theorem dX7_readsLine_102 : decode cX7_readsLine 102 = .ok (.if_icmp .eq 7, 3) := by decide +kernel
theorem dX7_readsLine_105 : decode cX7_readsLine 105 = .ok (.iconst 1, 1) := by decide +kernel
theorem dX7_readsLine_106 : decode cX7_readsLine 106 = .ok (.goto 4, 3) := by decide +kernel
theorem dX7_readsLine_109 : decode cX7_readsLine 109 = .ok (.iconst 0, 1) := by decide +kernel
theorem dX7_readsLine_110 : decode cX7_readsLine 110 = .ok (.ireturn, 1) := by decide +kernel
theorem dX7_readsLine_111 : decode cX7_readsLine 111 = .ok (.aload_n 0, 1) := by decide +kernel
theorem dX7_readsLine_112 : decode cX7_readsLine 112 = .ok (.getfield 28, 3) := by decide +kernel
theorem dX7_readsLine_115 : decode cX7_readsLine 115 = .ok (.ldc 71, 2) := by decide +kernel
theorem dX7_readsLine_117 : decode cX7_readsLine 117 = .ok (.invokevirtual 56, 3) := by decide +kernel
theorem dX7_readsLine_120 : decode cX7_readsLine 120 = .ok (.ifCond .eq 34, 3) := by decide +kernel
theorem dX7_readsLine_123 : decode cX7_readsLine 123 = .ok (.aload_n 0, 1) := by decide +kernel
theorem dX7_readsLine_124 : decode cX7_readsLine 124 = .ok (.getfield 16, 3) := by decide +kernel
theorem dX7_readsLine_127 : decode cX7_readsLine 127 = .ok (.aload_n 0, 1) := by decide +kernel
theorem dX7_readsLine_128 : decode cX7_readsLine 128 = .ok (.iconst 1, 1) := by decide +kernel
theorem dX7_readsLine_129 : decode cX7_readsLine 129 = .ok (.bipush 99, 2) := by decide +kernel
theorem dX7_readsLine_131 : decode cX7_readsLine 131 = .ok (.invokevirtual 64, 3) := by decide +kernel
theorem dX7_readsLine_134 : decode cX7_readsLine 134 = .ok (.putfield 73, 3) := by decide +kernel
theorem dX7_readsLine_137 : decode cX7_readsLine 137 = .ok (.aload_n 0, 1) := by decide +kernel
theorem dX7_readsLine_138 : decode cX7_readsLine 138 = .ok (.getfield 16, 3) := by decide +kernel
theorem dX7_readsLine_141 : decode cX7_readsLine 141 = .ok (.getfield 73, 3) := by decide +kernel
theorem dX7_readsLine_144 : decode cX7_readsLine 144 = .ok (.iconst (-1), 1) := by decide +kernel
theorem dX7_readsLine_145 : decode cX7_readsLine 145 = .ok (.if_icmp .eq 7, 3) := by decide +kernel
theorem dX7_readsLine_148 : decode cX7_readsLine 148 = .ok (.iconst 1, 1) := by decide +kernel
theorem dX7_readsLine_149 : decode cX7_readsLine 149 = .ok (.goto 4, 3) := by decide +kernel
theorem dX7_readsLine_152 : decode cX7_readsLine 152 = .ok (.iconst 0, 1) := by decide +kernel
theorem dX7_readsLine_153 : decode cX7_readsLine 153 = .ok (.ireturn, 1) := by decide +kernel
theorem dX7_readsLine_154 : decode cX7_readsLine 154 = .ok (.aload_n 0, 1) := by decide +kernel
theorem dX7_readsLine_155 : decode cX7_readsLine 155 = .ok (.getfield 28, 3) := by decide +kernel
theorem dX7_readsLine_158 : decode cX7_readsLine 158 = .ok (.ldc 76, 2) := by decide +kernel
theorem dX7_readsLine_160 : decode cX7_readsLine 160 = .ok (.invokevirtual 56, 3) := by decide +kernel
theorem dX7_readsLine_163 : decode cX7_readsLine 163 = .ok (.ifCond .eq 14, 3) := by decide +kernel
theorem dX7_readsLine_166 : decode cX7_readsLine 166 = .ok (.aload_n 0, 1) := by decide +kernel
theorem dX7_readsLine_167 : decode cX7_readsLine 167 = .ok (.invokevirtual 78, 3) := by decide +kernel
theorem dX7_readsLine_170 : decode cX7_readsLine 170 = .ok (.ifCond .eq 7, 3) := by decide +kernel
theorem dX7_readsLine_173 : decode cX7_readsLine 173 = .ok (.iconst 1, 1) := by decide +kernel
theorem dX7_readsLine_174 : decode cX7_readsLine 174 = .ok (.goto 4, 3) := by decide +kernel
theorem dX7_readsLine_177 : decode cX7_readsLine 177 = .ok (.iconst 0, 1) := by decide +kernel
theorem dX7_readsLine_178 : decode cX7_readsLine 178 = .ok (.ireturn, 1) := by decide +kernel
theorem dX7_readsSign_0 : decode cX7_readsSign 0 = .ok (.aload_n 0, 1) := by decide +kernel
theorem dX7_readsSign_1 : decode cX7_readsSign 1 = .ok (.getfield 16, 3) := by decide +kernel
theorem dX7_readsSign_4 : decode cX7_readsSign 4 = .ok (.getfield 81, 3) := by decide +kernel
theorem dX7_readsSign_7 : decode cX7_readsSign 7 = .ok (.istore_n 1, 1) := by decide +kernel
theorem dX7_readsSign_8 : decode cX7_readsSign 8 = .ok (.iload_n 1, 1) := by decide +kernel
theorem dX7_readsSign_9 : decode cX7_readsSign 9 = .ok (.bipush 12, 2) := by decide +kernel
theorem dX7_readsSign_11 : decode cX7_readsSign 11 = .ok (.if_icmp .lt 5, 3) := by decide +kernel
theorem dX7_readsSign_14 : decode cX7_readsSign 14 = .ok (.iconst 0, 1) := by decide +kernel
theorem dX7_readsSign_15 : decode cX7_readsSign 15 = .ok (.ireturn, 1) := by decide +kernel
theorem dX7_readsSign_16 : decode cX7_readsSign 16 = .ok (.aload_n 0, 1) := by decide +kernel
theorem dX7_readsSign_17 : decode cX7_readsSign 17 = .ok (.getfield 28, 3) := by decide +kernel
theorem dX7_readsSign_20 : decode cX7_readsSign 20 = .ok (.invokevirtual 84, 3) := by decide +kernel
theorem dX7_readsSign_23 : decode cX7_readsSign 23 = .ok (.aload_n 0, 1) := by decide +kernel
theorem dX7_readsSign_24 : decode cX7_readsSign 24 = .ok (.invokevirtual 87, 3) := by decide +kernel
theorem dX7_readsSign_27 : decode cX7_readsSign 27 = .ok (.istore_n 2, 1) := by decide +kernel
theorem dX7_readsSign_28 : decode cX7_readsSign 28 = .ok (.iload_n 2, 1) := by decide +kernel
theorem dX7_readsSign_29 : decode cX7_readsSign 29 = .ok (.iconst (-1), 1) := by decide +kernel
theorem dX7_readsSign_30 : decode cX7_readsSign 30 = .ok (.if_icmp .ne 5, 3) := by decide +kernel
theorem dX7_readsSign_33 : decode cX7_readsSign 33 = .ok (.iconst 0, 1) := by decide +kernel
theorem dX7_readsSign_34 : decode cX7_readsSign 34 = .ok (.ireturn, 1) := by decide +kernel
theorem dX7_readsSign_35 : decode cX7_readsSign 35 = .ok (.aload_n 0, 1) := by decide +kernel
theorem dX7_readsSign_36 : decode cX7_readsSign 36 = .ok (.getfield 28, 3) := by decide +kernel
theorem dX7_readsSign_39 : decode cX7_readsSign 39 = .ok (.invokevirtual 84, 3) := by decide +kernel
theorem dX7_readsSign_42 : decode cX7_readsSign 42 = .ok (.aload_n 0, 1) := by decide +kernel
theorem dX7_readsSign_43 : decode cX7_readsSign 43 = .ok (.getfield 28, 3) := by decide +kernel
theorem dX7_readsSign_46 : decode cX7_readsSign 46 = .ok (.ldc 91, 2) := by decide +kernel
theorem dX7_readsSign_48 : decode cX7_readsSign 48 = .ok (.invokevirtual 56, 3) := by decide +kernel
theorem dX7_readsSign_51 : decode cX7_readsSign 51 = .ok (.ifCond .ne 5, 3) := by decide +kernel
theorem dX7_readsSign_54 : decode cX7_readsSign 54 = .ok (.iconst 0, 1) := by decide +kernel
theorem dX7_readsSign_55 : decode cX7_readsSign 55 = .ok (.ireturn, 1) := by decide +kernel
theorem dX7_readsSign_56 : decode cX7_readsSign 56 = .ok (.aload_n 0, 1) := by decide +kernel
theorem dX7_readsSign_57 : decode cX7_readsSign 57 = .ok (.iconst 2, 1) := by decide +kernel
theorem dX7_readsSign_58 : decode cX7_readsSign 58 = .ok (.bipush 12, 2) := by decide +kernel
theorem dX7_readsSign_60 : decode cX7_readsSign 60 = .ok (.invokevirtual 64, 3) := by decide +kernel
theorem dX7_readsSign_63 : decode cX7_readsSign 63 = .ok (.istore_n 3, 1) := by decide +kernel
theorem dX7_readsSign_64 : decode cX7_readsSign 64 = .ok (.iload_n 3, 1) := by decide +kernel
theorem dX7_readsSign_65 : decode cX7_readsSign 65 = .ok (.iconst (-1), 1) := by decide +kernel
theorem dX7_readsSign_66 : decode cX7_readsSign 66 = .ok (.if_icmp .ne 5, 3) := by decide +kernel
theorem dX7_readsSign_69 : decode cX7_readsSign 69 = .ok (.iconst 0, 1) := by decide +kernel
theorem dX7_readsSign_70 : decode cX7_readsSign 70 = .ok (.ireturn, 1) := by decide +kernel
theorem dX7_readsSign_71 : decode cX7_readsSign 71 = .ok (.aload_n 0, 1) := by decide +kernel
theorem dX7_readsSign_72 : decode cX7_readsSign 72 = .ok (.getfield 16, 3) := by decide +kernel
theorem dX7_readsSign_75 : decode cX7_readsSign 75 = .ok (.getfield 93, 3) := by decide +kernel
theorem dX7_readsSign_78 : decode cX7_readsSign 78 = .ok (.iload_n 1, 1) := by decide +kernel
theorem dX7_readsSign_79 : decode cX7_readsSign 79 = .ok (.iload_n 2, 1) := by decide +kernel
theorem dX7_readsSign_80 : decode cX7_readsSign 80 = .ok (.iastore, 1) := by decide +kernel
theorem dX7_readsSign_81 : decode cX7_readsSign 81 = .ok (.aload_n 0, 1) := by decide +kernel
theorem dX7_readsSign_82 : decode cX7_readsSign 82 = .ok (.getfield 16, 3) := by decide +kernel
theorem dX7_readsSign_85 : decode cX7_readsSign 85 = .ok (.getfield 97, 3) := by decide +kernel
theorem dX7_readsSign_88 : decode cX7_readsSign 88 = .ok (.iload_n 1, 1) := by decide +kernel
theorem dX7_readsSign_89 : decode cX7_readsSign 89 = .ok (.iload_n 3, 1) := by decide +kernel
theorem dX7_readsSign_90 : decode cX7_readsSign 90 = .ok (.iastore, 1) := by decide +kernel
theorem dX7_readsSign_91 : decode cX7_readsSign 91 = .ok (.aload_n 0, 1) := by decide +kernel
theorem dX7_readsSign_92 : decode cX7_readsSign 92 = .ok (.iload_n 1, 1) := by decide +kernel
theorem dX7_readsSign_93 : decode cX7_readsSign 93 = .ok (.invokevirtual 100, 3) := by decide +kernel
theorem dX7_readsSign_96 : decode cX7_readsSign 96 = .ok (.ifCond .ne 5, 3) := by decide +kernel
theorem dX7_readsSign_99 : decode cX7_readsSign 99 = .ok (.iconst 0, 1) := by decide +kernel
theorem dX7_readsSign_100 : decode cX7_readsSign 100 = .ok (.ireturn, 1) := by decide +kernel
theorem dX7_readsSign_101 : decode cX7_readsSign 101 = .ok (.aload_n 0, 1) := by decide +kernel
theorem dX7_readsSign_102 : decode cX7_readsSign 102 = .ok (.getfield 16, 3) := by decide +kernel
theorem dX7_readsSign_105 : decode cX7_readsSign 105 = .ok (.dup, 1) := by decide +kernel
theorem dX7_readsSign_106 : decode cX7_readsSign 106 = .ok (.getfield 81, 3) := by decide +kernel
theorem dX7_readsSign_109 : decode cX7_readsSign 109 = .ok (.iconst 1, 1) := by decide +kernel
theorem dX7_readsSign_110 : decode cX7_readsSign 110 = .ok (.iadd, 1) := by decide +kernel
theorem dX7_readsSign_111 : decode cX7_readsSign 111 = .ok (.putfield 81, 3) := by decide +kernel
theorem dX7_readsSign_114 : decode cX7_readsSign 114 = .ok (.iconst 1, 1) := by decide +kernel
theorem dX7_readsSign_115 : decode cX7_readsSign 115 = .ok (.ireturn, 1) := by decide +kernel
theorem dX7_sortHere_0 : decode cX7_sortHere 0 = .ok (.aload_n 0, 1) := by decide +kernel
theorem dX7_sortHere_1 : decode cX7_sortHere 1 = .ok (.getfield 28, 3) := by decide +kernel
theorem dX7_sortHere_4 : decode cX7_sortHere 4 = .ok (.ldc 104, 2) := by decide +kernel
theorem dX7_sortHere_6 : decode cX7_sortHere 6 = .ok (.invokevirtual 34, 3) := by decide +kernel
theorem dX7_sortHere_9 : decode cX7_sortHere 9 = .ok (.ifCond .eq 5, 3) := by decide +kernel
theorem dX7_sortHere_12 : decode cX7_sortHere 12 = .ok (.iconst 0, 1) := by decide +kernel
theorem dX7_sortHere_13 : decode cX7_sortHere 13 = .ok (.ireturn, 1) := by decide +kernel
theorem dX7_sortHere_14 : decode cX7_sortHere 14 = .ok (.aload_n 0, 1) := by decide +kernel
theorem dX7_sortHere_15 : decode cX7_sortHere 15 = .ok (.getfield 28, 3) := by decide +kernel
theorem dX7_sortHere_18 : decode cX7_sortHere 18 = .ok (.ldc 106, 2) := by decide +kernel
theorem dX7_sortHere_20 : decode cX7_sortHere 20 = .ok (.invokevirtual 34, 3) := by decide +kernel
theorem dX7_sortHere_23 : decode cX7_sortHere 23 = .ok (.ifCond .eq 5, 3) := by decide +kernel
theorem dX7_sortHere_26 : decode cX7_sortHere 26 = .ok (.iconst 1, 1) := by decide +kernel
theorem dX7_sortHere_27 : decode cX7_sortHere 27 = .ok (.ireturn, 1) := by decide +kernel
theorem dX7_sortHere_28 : decode cX7_sortHere 28 = .ok (.aload_n 0, 1) := by decide +kernel
theorem dX7_sortHere_29 : decode cX7_sortHere 29 = .ok (.getfield 28, 3) := by decide +kernel
theorem dX7_sortHere_32 : decode cX7_sortHere 32 = .ok (.ldc 108, 2) := by decide +kernel
theorem dX7_sortHere_34 : decode cX7_sortHere 34 = .ok (.invokevirtual 34, 3) := by decide +kernel
theorem dX7_sortHere_37 : decode cX7_sortHere 37 = .ok (.ifCond .eq 5, 3) := by decide +kernel
theorem dX7_sortHere_40 : decode cX7_sortHere 40 = .ok (.iconst 2, 1) := by decide +kernel
theorem dX7_sortHere_41 : decode cX7_sortHere 41 = .ok (.ireturn, 1) := by decide +kernel
theorem dX7_sortHere_42 : decode cX7_sortHere 42 = .ok (.aload_n 0, 1) := by decide +kernel
theorem dX7_sortHere_43 : decode cX7_sortHere 43 = .ok (.getfield 28, 3) := by decide +kernel
theorem dX7_sortHere_46 : decode cX7_sortHere 46 = .ok (.ldc 110, 2) := by decide +kernel
theorem dX7_sortHere_48 : decode cX7_sortHere 48 = .ok (.invokevirtual 34, 3) := by decide +kernel
theorem dX7_sortHere_51 : decode cX7_sortHere 51 = .ok (.ifCond .eq 7, 3) := by decide +kernel
theorem dX7_sortHere_54 : decode cX7_sortHere 54 = .ok (.iconst 3, 1) := by decide +kernel
theorem dX7_sortHere_55 : decode cX7_sortHere 55 = .ok (.goto 4, 3) := by decide +kernel
theorem dX7_sortHere_58 : decode cX7_sortHere 58 = .ok (.iconst (-1), 1) := by decide +kernel
theorem dX7_sortHere_59 : decode cX7_sortHere 59 = .ok (.ireturn, 1) := by decide +kernel
theorem dX7_readsSides_0 : decode cX7_readsSides 0 = .ok (.aload_n 0, 1) := by decide +kernel
theorem dX7_readsSides_1 : decode cX7_readsSides 1 = .ok (.getfield 28, 3) := by decide +kernel
theorem dX7_readsSides_4 : decode cX7_readsSides 4 = .ok (.ldc 112, 2) := by decide +kernel
theorem dX7_readsSides_6 : decode cX7_readsSides 6 = .ok (.invokevirtual 56, 3) := by decide +kernel
theorem dX7_readsSides_9 : decode cX7_readsSides 9 = .ok (.ifCond .eq 13, 3) := by decide +kernel
theorem dX7_readsSides_12 : decode cX7_readsSides 12 = .ok (.aload_n 0, 1) := by decide +kernel
theorem dX7_readsSides_13 : decode cX7_readsSides 13 = .ok (.getfield 28, 3) := by decide +kernel
theorem dX7_readsSides_16 : decode cX7_readsSides 16 = .ok (.invokevirtual 114, 3) := by decide +kernel
theorem dX7_readsSides_19 : decode cX7_readsSides 19 = .ok (.ifCond .ne 5, 3) := by decide +kernel
theorem dX7_readsSides_22 : decode cX7_readsSides 22 = .ok (.iconst 0, 1) := by decide +kernel
theorem dX7_readsSides_23 : decode cX7_readsSides 23 = .ok (.ireturn, 1) := by decide +kernel
theorem dX7_readsSides_24 : decode cX7_readsSides 24 = .ok (.iconst 0, 1) := by decide +kernel
theorem dX7_readsSides_25 : decode cX7_readsSides 25 = .ok (.istore_n 2, 1) := by decide +kernel
theorem dX7_readsSides_26 : decode cX7_readsSides 26 = .ok (.iload_n 2, 1) := by decide +kernel
theorem dX7_readsSides_27 : decode cX7_readsSides 27 = .ok (.iconst 5, 1) := by decide +kernel
theorem dX7_readsSides_28 : decode cX7_readsSides 28 = .ok (.if_icmp .ge 30, 3) := by decide +kernel
theorem dX7_readsSides_31 : decode cX7_readsSides 31 = .ok (.aload_n 0, 1) := by decide +kernel
theorem dX7_readsSides_32 : decode cX7_readsSides 32 = .ok (.getfield 16, 3) := by decide +kernel
theorem dX7_readsSides_35 : decode cX7_readsSides 35 = .ok (.getfield 117, 3) := by decide +kernel
theorem dX7_readsSides_38 : decode cX7_readsSides 38 = .ok (.iload_n 1, 1) := by decide +kernel
theorem dX7_readsSides_39 : decode cX7_readsSides 39 = .ok (.iconst 5, 1) := by decide +kernel
theorem dX7_readsSides_40 : decode cX7_readsSides 40 = .ok (.imul, 1) := by decide +kernel
theorem dX7_readsSides_41 : decode cX7_readsSides 41 = .ok (.iload_n 2, 1) := by decide +kernel
theorem dX7_readsSides_42 : decode cX7_readsSides 42 = .ok (.iadd, 1) := by decide +kernel
theorem dX7_readsSides_43 : decode cX7_readsSides 43 = .ok (.aload_n 0, 1) := by decide +kernel
theorem dX7_readsSides_44 : decode cX7_readsSides 44 = .ok (.getfield 28, 3) := by decide +kernel
theorem dX7_readsSides_47 : decode cX7_readsSides 47 = .ok (.iload_n 2, 1) := by decide +kernel
theorem dX7_readsSides_48 : decode cX7_readsSides 48 = .ok (.invokevirtual 120, 3) := by decide +kernel
theorem dX7_readsSides_51 : decode cX7_readsSides 51 = .ok (.iastore, 1) := by decide +kernel
theorem dX7_readsSides_52 : decode cX7_readsSides 52 = .ok (.iinc 2 1, 3) := by decide +kernel
theorem dX7_readsSides_55 : decode cX7_readsSides 55 = .ok (.goto (-29), 3) := by decide +kernel
theorem dX7_readsSides_58 : decode cX7_readsSides 58 = .ok (.aload_n 0, 1) := by decide +kernel
theorem dX7_readsSides_59 : decode cX7_readsSides 59 = .ok (.getfield 28, 3) := by decide +kernel
theorem dX7_readsSides_62 : decode cX7_readsSides 62 = .ok (.invokevirtual 84, 3) := by decide +kernel
theorem dX7_readsSides_65 : decode cX7_readsSides 65 = .ok (.aload_n 0, 1) := by decide +kernel
theorem dX7_readsSides_66 : decode cX7_readsSides 66 = .ok (.getfield 28, 3) := by decide +kernel
theorem dX7_readsSides_69 : decode cX7_readsSides 69 = .ok (.ldc 124, 2) := by decide +kernel
theorem dX7_readsSides_71 : decode cX7_readsSides 71 = .ok (.invokevirtual 56, 3) := by decide +kernel
theorem dX7_readsSides_74 : decode cX7_readsSides 74 = .ok (.ifCond .eq 13, 3) := by decide +kernel
theorem dX7_readsSides_77 : decode cX7_readsSides 77 = .ok (.aload_n 0, 1) := by decide +kernel
theorem dX7_readsSides_78 : decode cX7_readsSides 78 = .ok (.getfield 28, 3) := by decide +kernel
theorem dX7_readsSides_81 : decode cX7_readsSides 81 = .ok (.invokevirtual 114, 3) := by decide +kernel
theorem dX7_readsSides_84 : decode cX7_readsSides 84 = .ok (.ifCond .ne 5, 3) := by decide +kernel
theorem dX7_readsSides_87 : decode cX7_readsSides 87 = .ok (.iconst 0, 1) := by decide +kernel
theorem dX7_readsSides_88 : decode cX7_readsSides 88 = .ok (.ireturn, 1) := by decide +kernel
theorem dX7_readsSides_89 : decode cX7_readsSides 89 = .ok (.iconst 0, 1) := by decide +kernel
theorem dX7_readsSides_90 : decode cX7_readsSides 90 = .ok (.istore_n 2, 1) := by decide +kernel
theorem dX7_readsSides_91 : decode cX7_readsSides 91 = .ok (.iload_n 2, 1) := by decide +kernel
theorem dX7_readsSides_92 : decode cX7_readsSides 92 = .ok (.iconst 5, 1) := by decide +kernel
theorem dX7_readsSides_93 : decode cX7_readsSides 93 = .ok (.if_icmp .ge 57, 3) := by decide +kernel
theorem dX7_readsSides_96 : decode cX7_readsSides 96 = .ok (.aload_n 0, 1) := by decide +kernel
theorem dX7_readsSides_97 : decode cX7_readsSides 97 = .ok (.getfield 28, 3) := by decide +kernel
theorem dX7_readsSides_100 : decode cX7_readsSides 100 = .ok (.iload_n 2, 1) := by decide +kernel
theorem dX7_readsSides_101 : decode cX7_readsSides 101 = .ok (.invokevirtual 120, 3) := by decide +kernel
theorem dX7_readsSides_104 : decode cX7_readsSides 104 = .ok (.istore_n 3, 1) := by decide +kernel
theorem dX7_readsSides_105 : decode cX7_readsSides 105 = .ok (.aload_n 0, 1) := by decide +kernel
theorem dX7_readsSides_106 : decode cX7_readsSides 106 = .ok (.getfield 16, 3) := by decide +kernel
theorem dX7_readsSides_109 : decode cX7_readsSides 109 = .ok (.iload_n 1, 1) := by decide +kernel
theorem dX7_readsSides_110 : decode cX7_readsSides 110 = .ok (.iload_n 2, 1) := by decide +kernel
theorem dX7_readsSides_111 : decode cX7_readsSides 111 = .ok (.invokevirtual 126, 3) := by decide +kernel
theorem dX7_readsSides_114 : decode cX7_readsSides 114 = .ok (.iload_n 3, 1) := by decide +kernel
theorem dX7_readsSides_115 : decode cX7_readsSides 115 = .ok (.iadd, 1) := by decide +kernel
theorem dX7_readsSides_116 : decode cX7_readsSides 116 = .ok (.aload_n 0, 1) := by decide +kernel
theorem dX7_readsSides_117 : decode cX7_readsSides 117 = .ok (.getfield 16, 3) := by decide +kernel
theorem dX7_readsSides_120 : decode cX7_readsSides 120 = .ok (.getfield 97, 3) := by decide +kernel
theorem dX7_readsSides_123 : decode cX7_readsSides 123 = .ok (.iload_n 1, 1) := by decide +kernel
theorem dX7_readsSides_124 : decode cX7_readsSides 124 = .ok (.iaload, 1) := by decide +kernel
theorem dX7_readsSides_125 : decode cX7_readsSides 125 = .ok (.if_icmp .lt 5, 3) := by decide +kernel
theorem dX7_readsSides_128 : decode cX7_readsSides 128 = .ok (.iconst 0, 1) := by decide +kernel
theorem dX7_readsSides_129 : decode cX7_readsSides 129 = .ok (.ireturn, 1) := by decide +kernel
theorem dX7_readsSides_130 : decode cX7_readsSides 130 = .ok (.aload_n 0, 1) := by decide +kernel
theorem dX7_readsSides_131 : decode cX7_readsSides 131 = .ok (.getfield 16, 3) := by decide +kernel
theorem dX7_readsSides_134 : decode cX7_readsSides 134 = .ok (.getfield 129, 3) := by decide +kernel
theorem dX7_readsSides_137 : decode cX7_readsSides 137 = .ok (.iload_n 1, 1) := by decide +kernel
theorem dX7_readsSides_138 : decode cX7_readsSides 138 = .ok (.iconst 5, 1) := by decide +kernel
theorem dX7_readsSides_139 : decode cX7_readsSides 139 = .ok (.imul, 1) := by decide +kernel
theorem dX7_readsSides_140 : decode cX7_readsSides 140 = .ok (.iload_n 2, 1) := by decide +kernel
theorem dX7_readsSides_141 : decode cX7_readsSides 141 = .ok (.iadd, 1) := by decide +kernel
theorem dX7_readsSides_142 : decode cX7_readsSides 142 = .ok (.iload_n 3, 1) := by decide +kernel
theorem dX7_readsSides_143 : decode cX7_readsSides 143 = .ok (.iastore, 1) := by decide +kernel
theorem dX7_readsSides_144 : decode cX7_readsSides 144 = .ok (.iinc 2 1, 3) := by decide +kernel
theorem dX7_readsSides_147 : decode cX7_readsSides 147 = .ok (.goto (-56), 3) := by decide +kernel
theorem dX7_readsSides_150 : decode cX7_readsSides 150 = .ok (.aload_n 0, 1) := by decide +kernel
theorem dX7_readsSides_151 : decode cX7_readsSides 151 = .ok (.getfield 28, 3) := by decide +kernel
theorem dX7_readsSides_154 : decode cX7_readsSides 154 = .ok (.invokevirtual 84, 3) := by decide +kernel
theorem dX7_readsSides_157 : decode cX7_readsSides 157 = .ok (.iconst 1, 1) := by decide +kernel
theorem dX7_readsSides_158 : decode cX7_readsSides 158 = .ok (.ireturn, 1) := by decide +kernel
theorem dX7_readsBoard_0 : decode cX7_readsBoard 0 = .ok (.aload_n 0, 1) := by decide +kernel
theorem dX7_readsBoard_1 : decode cX7_readsBoard 1 = .ok (.getfield 16, 3) := by decide +kernel
theorem dX7_readsBoard_4 : decode cX7_readsBoard 4 = .ok (.aload_n 0, 1) := by decide +kernel
theorem dX7_readsBoard_5 : decode cX7_readsBoard 5 = .ok (.bipush 10, 2) := by decide +kernel
theorem dX7_readsBoard_7 : decode cX7_readsBoard 7 = .ok (.bipush 120, 2) := by decide +kernel
theorem dX7_readsBoard_9 : decode cX7_readsBoard 9 = .ok (.invokevirtual 64, 3) := by decide +kernel
theorem dX7_readsBoard_12 : decode cX7_readsBoard 12 = .ok (.putfield 132, 3) := by decide +kernel
theorem dX7_readsBoard_15 : decode cX7_readsBoard 15 = .ok (.aload_n 0, 1) := by decide +kernel
theorem dX7_readsBoard_16 : decode cX7_readsBoard 16 = .ok (.getfield 16, 3) := by decide +kernel
theorem dX7_readsBoard_19 : decode cX7_readsBoard 19 = .ok (.getfield 132, 3) := by decide +kernel
theorem dX7_readsBoard_22 : decode cX7_readsBoard 22 = .ok (.iconst (-1), 1) := by decide +kernel
theorem dX7_readsBoard_23 : decode cX7_readsBoard 23 = .ok (.if_icmp .eq 15, 3) := by decide +kernel
theorem dX7_readsBoard_26 : decode cX7_readsBoard 26 = .ok (.aload_n 0, 1) := by decide +kernel
theorem dX7_readsBoard_27 : decode cX7_readsBoard 27 = .ok (.getfield 28, 3) := by decide +kernel
theorem dX7_readsBoard_30 : decode cX7_readsBoard 30 = .ok (.ldc 135, 2) := by decide +kernel
theorem dX7_readsBoard_32 : decode cX7_readsBoard 32 = .ok (.invokevirtual 56, 3) := by decide +kernel
theorem dX7_readsBoard_35 : decode cX7_readsBoard 35 = .ok (.ifCond .ne 5, 3) := by decide +kernel
theorem dX7_readsBoard_38 : decode cX7_readsBoard 38 = .ok (.iconst 0, 1) := by decide +kernel
theorem dX7_readsBoard_39 : decode cX7_readsBoard 39 = .ok (.ireturn, 1) := by decide +kernel
theorem dX7_readsBoard_40 : decode cX7_readsBoard 40 = .ok (.aload_n 0, 1) := by decide +kernel
theorem dX7_readsBoard_41 : decode cX7_readsBoard 41 = .ok (.getfield 16, 3) := by decide +kernel
theorem dX7_readsBoard_44 : decode cX7_readsBoard 44 = .ok (.aload_n 0, 1) := by decide +kernel
theorem dX7_readsBoard_45 : decode cX7_readsBoard 45 = .ok (.iconst 0, 1) := by decide +kernel
theorem dX7_readsBoard_46 : decode cX7_readsBoard 46 = .ok (.bipush 9, 2) := by decide +kernel
theorem dX7_readsBoard_48 : decode cX7_readsBoard 48 = .ok (.invokevirtual 64, 3) := by decide +kernel
theorem dX7_readsBoard_51 : decode cX7_readsBoard 51 = .ok (.putfield 137, 3) := by decide +kernel
theorem dX7_readsBoard_54 : decode cX7_readsBoard 54 = .ok (.aload_n 0, 1) := by decide +kernel
theorem dX7_readsBoard_55 : decode cX7_readsBoard 55 = .ok (.getfield 16, 3) := by decide +kernel
theorem dX7_readsBoard_58 : decode cX7_readsBoard 58 = .ok (.getfield 137, 3) := by decide +kernel
theorem dX7_readsBoard_61 : decode cX7_readsBoard 61 = .ok (.iconst (-1), 1) := by decide +kernel
theorem dX7_readsBoard_62 : decode cX7_readsBoard 62 = .ok (.if_icmp .eq 7, 3) := by decide +kernel
theorem dX7_readsBoard_65 : decode cX7_readsBoard 65 = .ok (.iconst 1, 1) := by decide +kernel
theorem dX7_readsBoard_66 : decode cX7_readsBoard 66 = .ok (.goto 4, 3) := by decide +kernel
theorem dX7_readsBoard_69 : decode cX7_readsBoard 69 = .ok (.iconst 0, 1) := by decide +kernel
theorem dX7_readsBoard_70 : decode cX7_readsBoard 70 = .ok (.ireturn, 1) := by decide +kernel
theorem dX7_readsWord_0 : decode cX7_readsWord 0 = .ok (.aload_n 0, 1) := by decide +kernel
theorem dX7_readsWord_1 : decode cX7_readsWord 1 = .ok (.iconst 1, 1) := by decide +kernel
theorem dX7_readsWord_2 : decode cX7_readsWord 2 = .ok (.putfield 24, 3) := by decide +kernel
theorem dX7_readsWord_5 : decode cX7_readsWord 5 = .ok (.aload_n 0, 1) := by decide +kernel
theorem dX7_readsWord_6 : decode cX7_readsWord 6 = .ok (.getfield 16, 3) := by decide +kernel
theorem dX7_readsWord_9 : decode cX7_readsWord 9 = .ok (.iconst 0, 1) := by decide +kernel
theorem dX7_readsWord_10 : decode cX7_readsWord 10 = .ok (.putfield 139, 3) := by decide +kernel
theorem dX7_readsWord_13 : decode cX7_readsWord 13 = .ok (.iconst 0, 1) := by decide +kernel
theorem dX7_readsWord_14 : decode cX7_readsWord 14 = .ok (.istore_n 1, 1) := by decide +kernel
theorem dX7_readsWord_15 : decode cX7_readsWord 15 = .ok (.iload_n 1, 1) := by decide +kernel
theorem dX7_readsWord_16 : decode cX7_readsWord 16 = .ok (.bipush 14, 2) := by decide +kernel
theorem dX7_readsWord_18 : decode cX7_readsWord 18 = .ok (.if_icmp .ge 67, 3) := by decide +kernel
theorem dX7_readsWord_21 : decode cX7_readsWord 21 = .ok (.aload_n 0, 1) := by decide +kernel
theorem dX7_readsWord_22 : decode cX7_readsWord 22 = .ok (.iconst 0, 1) := by decide +kernel
theorem dX7_readsWord_23 : decode cX7_readsWord 23 = .ok (.aload_n 0, 1) := by decide +kernel
theorem dX7_readsWord_24 : decode cX7_readsWord 24 = .ok (.getfield 16, 3) := by decide +kernel
theorem dX7_readsWord_27 : decode cX7_readsWord 27 = .ok (.getfield 81, 3) := by decide +kernel
theorem dX7_readsWord_30 : decode cX7_readsWord 30 = .ok (.iconst 1, 1) := by decide +kernel
theorem dX7_readsWord_31 : decode cX7_readsWord 31 = .ok (.isub, 1) := by decide +kernel
theorem dX7_readsWord_32 : decode cX7_readsWord 32 = .ok (.invokevirtual 64, 3) := by decide +kernel
theorem dX7_readsWord_35 : decode cX7_readsWord 35 = .ok (.istore_n 2, 1) := by decide +kernel
theorem dX7_readsWord_36 : decode cX7_readsWord 36 = .ok (.iload_n 2, 1) := by decide +kernel
theorem dX7_readsWord_37 : decode cX7_readsWord 37 = .ok (.iconst (-1), 1) := by decide +kernel
theorem dX7_readsWord_38 : decode cX7_readsWord 38 = .ok (.if_icmp .ne 5, 3) := by decide +kernel
theorem dX7_readsWord_41 : decode cX7_readsWord 41 = .ok (.iconst 0, 1) := by decide +kernel
theorem dX7_readsWord_42 : decode cX7_readsWord 42 = .ok (.ireturn, 1) := by decide +kernel
theorem dX7_readsWord_43 : decode cX7_readsWord 43 = .ok (.aload_n 0, 1) := by decide +kernel
theorem dX7_readsWord_44 : decode cX7_readsWord 44 = .ok (.getfield 16, 3) := by decide +kernel
theorem dX7_readsWord_47 : decode cX7_readsWord 47 = .ok (.getfield 142, 3) := by decide +kernel
theorem dX7_readsWord_50 : decode cX7_readsWord 50 = .ok (.iload_n 1, 1) := by decide +kernel
theorem dX7_readsWord_51 : decode cX7_readsWord 51 = .ok (.iload_n 2, 1) := by decide +kernel
theorem dX7_readsWord_52 : decode cX7_readsWord 52 = .ok (.iastore, 1) := by decide +kernel
theorem dX7_readsWord_53 : decode cX7_readsWord 53 = .ok (.aload_n 0, 1) := by decide +kernel
theorem dX7_readsWord_54 : decode cX7_readsWord 54 = .ok (.getfield 16, 3) := by decide +kernel
theorem dX7_readsWord_57 : decode cX7_readsWord 57 = .ok (.dup, 1) := by decide +kernel
theorem dX7_readsWord_58 : decode cX7_readsWord 58 = .ok (.getfield 139, 3) := by decide +kernel
theorem dX7_readsWord_61 : decode cX7_readsWord 61 = .ok (.iconst 1, 1) := by decide +kernel
theorem dX7_readsWord_62 : decode cX7_readsWord 62 = .ok (.iadd, 1) := by decide +kernel
theorem dX7_readsWord_63 : decode cX7_readsWord 63 = .ok (.putfield 139, 3) := by decide +kernel
theorem dX7_readsWord_66 : decode cX7_readsWord 66 = .ok (.aload_n 0, 1) := by decide +kernel
theorem dX7_readsWord_67 : decode cX7_readsWord 67 = .ok (.getfield 28, 3) := by decide +kernel
theorem dX7_readsWord_70 : decode cX7_readsWord 70 = .ok (.getfield 144, 3) := by decide +kernel
theorem dX7_readsWord_73 : decode cX7_readsWord 73 = .ok (.iconst 2, 1) := by decide +kernel
theorem dX7_readsWord_74 : decode cX7_readsWord 74 = .ok (.if_icmp .eq 5, 3) := by decide +kernel
theorem dX7_readsWord_77 : decode cX7_readsWord 77 = .ok (.iconst 1, 1) := by decide +kernel
theorem dX7_readsWord_78 : decode cX7_readsWord 78 = .ok (.ireturn, 1) := by decide +kernel
theorem dX7_readsWord_79 : decode cX7_readsWord 79 = .ok (.iinc 1 1, 3) := by decide +kernel
theorem dX7_readsWord_82 : decode cX7_readsWord 82 = .ok (.goto (-67), 3) := by decide +kernel
theorem dX7_readsWord_85 : decode cX7_readsWord 85 = .ok (.iconst 0, 1) := by decide +kernel
theorem dX7_readsWord_86 : decode cX7_readsWord 86 = .ok (.ireturn, 1) := by decide +kernel
theorem dX7_readsWriter_0 : decode cX7_readsWriter 0 = .ok (.aload_n 0, 1) := by decide +kernel
theorem dX7_readsWriter_1 : decode cX7_readsWriter 1 = .ok (.getfield 16, 3) := by decide +kernel
theorem dX7_readsWriter_4 : decode cX7_readsWriter 4 = .ok (.getfield 147, 3) := by decide +kernel
theorem dX7_readsWriter_7 : decode cX7_readsWriter 7 = .ok (.istore_n 1, 1) := by decide +kernel
theorem dX7_readsWriter_8 : decode cX7_readsWriter 8 = .ok (.iload_n 1, 1) := by decide +kernel
theorem dX7_readsWriter_9 : decode cX7_readsWriter 9 = .ok (.bipush 6, 2) := by decide +kernel
theorem dX7_readsWriter_11 : decode cX7_readsWriter 11 = .ok (.if_icmp .lt 5, 3) := by decide +kernel
theorem dX7_readsWriter_14 : decode cX7_readsWriter 14 = .ok (.iconst 0, 1) := by decide +kernel
theorem dX7_readsWriter_15 : decode cX7_readsWriter 15 = .ok (.ireturn, 1) := by decide +kernel
theorem dX7_readsWriter_16 : decode cX7_readsWriter 16 = .ok (.aload_n 0, 1) := by decide +kernel
theorem dX7_readsWriter_17 : decode cX7_readsWriter 17 = .ok (.getfield 28, 3) := by decide +kernel
theorem dX7_readsWriter_20 : decode cX7_readsWriter 20 = .ok (.invokevirtual 84, 3) := by decide +kernel
theorem dX7_readsWriter_23 : decode cX7_readsWriter 23 = .ok (.aload_n 0, 1) := by decide +kernel
theorem dX7_readsWriter_24 : decode cX7_readsWriter 24 = .ok (.getfield 28, 3) := by decide +kernel
theorem dX7_readsWriter_27 : decode cX7_readsWriter 27 = .ok (.ldc 150, 2) := by decide +kernel
theorem dX7_readsWriter_29 : decode cX7_readsWriter 29 = .ok (.invokevirtual 56, 3) := by decide +kernel
theorem dX7_readsWriter_32 : decode cX7_readsWriter 32 = .ok (.ifCond .ne 5, 3) := by decide +kernel
theorem dX7_readsWriter_35 : decode cX7_readsWriter 35 = .ok (.iconst 0, 1) := by decide +kernel
theorem dX7_readsWriter_36 : decode cX7_readsWriter 36 = .ok (.ireturn, 1) := by decide +kernel
theorem dX7_readsWriter_37 : decode cX7_readsWriter 37 = .ok (.aload_n 0, 1) := by decide +kernel
theorem dX7_readsWriter_38 : decode cX7_readsWriter 38 = .ok (.getfield 16, 3) := by decide +kernel
theorem dX7_readsWriter_41 : decode cX7_readsWriter 41 = .ok (.getfield 152, 3) := by decide +kernel
theorem dX7_readsWriter_44 : decode cX7_readsWriter 44 = .ok (.iload_n 1, 1) := by decide +kernel
theorem dX7_readsWriter_45 : decode cX7_readsWriter 45 = .ok (.aload_n 0, 1) := by decide +kernel
theorem dX7_readsWriter_46 : decode cX7_readsWriter 46 = .ok (.iconst 0, 1) := by decide +kernel
theorem dX7_readsWriter_47 : decode cX7_readsWriter 47 = .ok (.sipush 999, 3) := by decide +kernel
theorem dX7_readsWriter_50 : decode cX7_readsWriter 50 = .ok (.invokevirtual 64, 3) := by decide +kernel
theorem dX7_readsWriter_53 : decode cX7_readsWriter 53 = .ok (.iastore, 1) := by decide +kernel
theorem dX7_readsWriter_54 : decode cX7_readsWriter 54 = .ok (.aload_n 0, 1) := by decide +kernel
theorem dX7_readsWriter_55 : decode cX7_readsWriter 55 = .ok (.getfield 16, 3) := by decide +kernel
theorem dX7_readsWriter_58 : decode cX7_readsWriter 58 = .ok (.getfield 152, 3) := by decide +kernel
theorem dX7_readsWriter_61 : decode cX7_readsWriter 61 = .ok (.iload_n 1, 1) := by decide +kernel
theorem dX7_readsWriter_62 : decode cX7_readsWriter 62 = .ok (.iaload, 1) := by decide +kernel
theorem dX7_readsWriter_63 : decode cX7_readsWriter 63 = .ok (.iconst (-1), 1) := by decide +kernel
theorem dX7_readsWriter_64 : decode cX7_readsWriter 64 = .ok (.if_icmp .eq 15, 3) := by decide +kernel
theorem dX7_readsWriter_67 : decode cX7_readsWriter 67 = .ok (.aload_n 0, 1) := by decide +kernel
theorem dX7_readsWriter_68 : decode cX7_readsWriter 68 = .ok (.getfield 28, 3) := by decide +kernel
theorem dX7_readsWriter_71 : decode cX7_readsWriter 71 = .ok (.ldc 155, 2) := by decide +kernel
theorem dX7_readsWriter_73 : decode cX7_readsWriter 73 = .ok (.invokevirtual 56, 3) := by decide +kernel
theorem dX7_readsWriter_76 : decode cX7_readsWriter 76 = .ok (.ifCond .ne 5, 3) := by decide +kernel
theorem dX7_readsWriter_79 : decode cX7_readsWriter 79 = .ok (.iconst 0, 1) := by decide +kernel
theorem dX7_readsWriter_80 : decode cX7_readsWriter 80 = .ok (.ireturn, 1) := by decide +kernel
theorem dX7_readsWriter_81 : decode cX7_readsWriter 81 = .ok (.aload_n 0, 1) := by decide +kernel
theorem dX7_readsWriter_82 : decode cX7_readsWriter 82 = .ok (.getfield 16, 3) := by decide +kernel
theorem dX7_readsWriter_85 : decode cX7_readsWriter 85 = .ok (.getfield 157, 3) := by decide +kernel
theorem dX7_readsWriter_88 : decode cX7_readsWriter 88 = .ok (.iload_n 1, 1) := by decide +kernel
theorem dX7_readsWriter_89 : decode cX7_readsWriter 89 = .ok (.aload_n 0, 1) := by decide +kernel
theorem dX7_readsWriter_90 : decode cX7_readsWriter 90 = .ok (.iconst 0, 1) := by decide +kernel
theorem dX7_readsWriter_91 : decode cX7_readsWriter 91 = .ok (.bipush 100, 2) := by decide +kernel
theorem dX7_readsWriter_93 : decode cX7_readsWriter 93 = .ok (.invokevirtual 64, 3) := by decide +kernel
theorem dX7_readsWriter_96 : decode cX7_readsWriter 96 = .ok (.iastore, 1) := by decide +kernel
theorem dX7_readsWriter_97 : decode cX7_readsWriter 97 = .ok (.aload_n 0, 1) := by decide +kernel
theorem dX7_readsWriter_98 : decode cX7_readsWriter 98 = .ok (.getfield 16, 3) := by decide +kernel
theorem dX7_readsWriter_101 : decode cX7_readsWriter 101 = .ok (.dup, 1) := by decide +kernel
theorem dX7_readsWriter_102 : decode cX7_readsWriter 102 = .ok (.getfield 147, 3) := by decide +kernel
theorem dX7_readsWriter_105 : decode cX7_readsWriter 105 = .ok (.iconst 1, 1) := by decide +kernel
theorem dX7_readsWriter_106 : decode cX7_readsWriter 106 = .ok (.iadd, 1) := by decide +kernel
theorem dX7_readsWriter_107 : decode cX7_readsWriter 107 = .ok (.putfield 147, 3) := by decide +kernel
theorem dX7_readsWriter_110 : decode cX7_readsWriter 110 = .ok (.aload_n 0, 1) := by decide +kernel
theorem dX7_readsWriter_111 : decode cX7_readsWriter 111 = .ok (.getfield 16, 3) := by decide +kernel
theorem dX7_readsWriter_114 : decode cX7_readsWriter 114 = .ok (.getfield 157, 3) := by decide +kernel
theorem dX7_readsWriter_117 : decode cX7_readsWriter 117 = .ok (.iload_n 1, 1) := by decide +kernel
theorem dX7_readsWriter_118 : decode cX7_readsWriter 118 = .ok (.iaload, 1) := by decide +kernel
theorem dX7_readsWriter_119 : decode cX7_readsWriter 119 = .ok (.iconst (-1), 1) := by decide +kernel
theorem dX7_readsWriter_120 : decode cX7_readsWriter 120 = .ok (.if_icmp .eq 7, 3) := by decide +kernel
theorem dX7_readsWriter_123 : decode cX7_readsWriter 123 = .ok (.iconst 1, 1) := by decide +kernel
theorem dX7_readsWriter_124 : decode cX7_readsWriter 124 = .ok (.goto 4, 3) := by decide +kernel
theorem dX7_readsWriter_127 : decode cX7_readsWriter 127 = .ok (.iconst 0, 1) := by decide +kernel
theorem dX7_readsWriter_128 : decode cX7_readsWriter 128 = .ok (.ireturn, 1) := by decide +kernel
theorem dX7_readsLooker_0 : decode cX7_readsLooker 0 = .ok (.aload_n 0, 1) := by decide +kernel
theorem dX7_readsLooker_1 : decode cX7_readsLooker 1 = .ok (.getfield 16, 3) := by decide +kernel
theorem dX7_readsLooker_4 : decode cX7_readsLooker 4 = .ok (.getfield 160, 3) := by decide +kernel
theorem dX7_readsLooker_7 : decode cX7_readsLooker 7 = .ok (.istore_n 1, 1) := by decide +kernel
theorem dX7_readsLooker_8 : decode cX7_readsLooker 8 = .ok (.iload_n 1, 1) := by decide +kernel
theorem dX7_readsLooker_9 : decode cX7_readsLooker 9 = .ok (.bipush 8, 2) := by decide +kernel
theorem dX7_readsLooker_11 : decode cX7_readsLooker 11 = .ok (.if_icmp .lt 5, 3) := by decide +kernel
theorem dX7_readsLooker_14 : decode cX7_readsLooker 14 = .ok (.iconst 0, 1) := by decide +kernel
theorem dX7_readsLooker_15 : decode cX7_readsLooker 15 = .ok (.ireturn, 1) := by decide +kernel
theorem dX7_readsLooker_16 : decode cX7_readsLooker 16 = .ok (.aload_n 0, 1) := by decide +kernel
theorem dX7_readsLooker_17 : decode cX7_readsLooker 17 = .ok (.getfield 28, 3) := by decide +kernel
theorem dX7_readsLooker_20 : decode cX7_readsLooker 20 = .ok (.invokevirtual 84, 3) := by decide +kernel
theorem dX7_readsLooker_23 : decode cX7_readsLooker 23 = .ok (.aload_n 0, 1) := by decide +kernel
theorem dX7_readsLooker_24 : decode cX7_readsLooker 24 = .ok (.getfield 16, 3) := by decide +kernel
theorem dX7_readsLooker_27 : decode cX7_readsLooker 27 = .ok (.getfield 163, 3) := by decide +kernel
theorem dX7_readsLooker_30 : decode cX7_readsLooker 30 = .ok (.iload_n 1, 1) := by decide +kernel
theorem dX7_readsLooker_31 : decode cX7_readsLooker 31 = .ok (.aload_n 0, 1) := by decide +kernel
theorem dX7_readsLooker_32 : decode cX7_readsLooker 32 = .ok (.iconst 0, 1) := by decide +kernel
theorem dX7_readsLooker_33 : decode cX7_readsLooker 33 = .ok (.sipush 200, 3) := by decide +kernel
theorem dX7_readsLooker_36 : decode cX7_readsLooker 36 = .ok (.invokevirtual 64, 3) := by decide +kernel
theorem dX7_readsLooker_39 : decode cX7_readsLooker 39 = .ok (.iastore, 1) := by decide +kernel
theorem dX7_readsLooker_40 : decode cX7_readsLooker 40 = .ok (.aload_n 0, 1) := by decide +kernel
theorem dX7_readsLooker_41 : decode cX7_readsLooker 41 = .ok (.getfield 16, 3) := by decide +kernel
theorem dX7_readsLooker_44 : decode cX7_readsLooker 44 = .ok (.dup, 1) := by decide +kernel
theorem dX7_readsLooker_45 : decode cX7_readsLooker 45 = .ok (.getfield 160, 3) := by decide +kernel
theorem dX7_readsLooker_48 : decode cX7_readsLooker 48 = .ok (.iconst 1, 1) := by decide +kernel
theorem dX7_readsLooker_49 : decode cX7_readsLooker 49 = .ok (.iadd, 1) := by decide +kernel
theorem dX7_readsLooker_50 : decode cX7_readsLooker 50 = .ok (.putfield 160, 3) := by decide +kernel
theorem dX7_readsLooker_53 : decode cX7_readsLooker 53 = .ok (.aload_n 0, 1) := by decide +kernel
theorem dX7_readsLooker_54 : decode cX7_readsLooker 54 = .ok (.getfield 16, 3) := by decide +kernel
theorem dX7_readsLooker_57 : decode cX7_readsLooker 57 = .ok (.getfield 163, 3) := by decide +kernel
theorem dX7_readsLooker_60 : decode cX7_readsLooker 60 = .ok (.iload_n 1, 1) := by decide +kernel
theorem dX7_readsLooker_61 : decode cX7_readsLooker 61 = .ok (.iaload, 1) := by decide +kernel
theorem dX7_readsLooker_62 : decode cX7_readsLooker 62 = .ok (.iconst (-1), 1) := by decide +kernel
theorem dX7_readsLooker_63 : decode cX7_readsLooker 63 = .ok (.if_icmp .eq 7, 3) := by decide +kernel
theorem dX7_readsLooker_66 : decode cX7_readsLooker 66 = .ok (.iconst 1, 1) := by decide +kernel
theorem dX7_readsLooker_67 : decode cX7_readsLooker 67 = .ok (.goto 4, 3) := by decide +kernel
theorem dX7_readsLooker_70 : decode cX7_readsLooker 70 = .ok (.iconst 0, 1) := by decide +kernel
theorem dX7_readsLooker_71 : decode cX7_readsLooker 71 = .ok (.ireturn, 1) := by decide +kernel
theorem dX8_init_0 : decode cX8_init 0 = .ok (.aload_n 0, 1) := by decide +kernel
theorem dX8_init_1 : decode cX8_init 1 = .ok (.invokespecial 3, 3) := by decide +kernel
theorem dX8_init_4 : decode cX8_init 4 = .ok (.aload_n 0, 1) := by decide +kernel
theorem dX8_init_5 : decode cX8_init 5 = .ok (.sipush 400, 3) := by decide +kernel
theorem dX8_init_8 : decode cX8_init 8 = .ok (.newarray .int, 2) := by decide +kernel
theorem dX8_init_10 : decode cX8_init 10 = .ok (.putfield 11, 3) := by decide +kernel
theorem dX8_init_13 : decode cX8_init 13 = .ok (.return_, 1) := by decide +kernel
theorem dX8_hasRoomFor_0 : decode cX8_hasRoomFor 0 = .ok (.aload_n 0, 1) := by decide +kernel
theorem dX8_hasRoomFor_1 : decode cX8_hasRoomFor 1 = .ok (.getfield 15, 3) := by decide +kernel
theorem dX8_hasRoomFor_4 : decode cX8_hasRoomFor 4 = .ok (.iload_n 1, 1) := by decide +kernel
theorem dX8_hasRoomFor_5 : decode cX8_hasRoomFor 5 = .ok (.iadd, 1) := by decide +kernel
theorem dX8_hasRoomFor_6 : decode cX8_hasRoomFor 6 = .ok (.sipush 400, 3) := by decide +kernel
theorem dX8_hasRoomFor_9 : decode cX8_hasRoomFor 9 = .ok (.if_icmp .gt 7, 3) := by decide +kernel
theorem dX8_hasRoomFor_12 : decode cX8_hasRoomFor 12 = .ok (.iconst 1, 1) := by decide +kernel
theorem dX8_hasRoomFor_13 : decode cX8_hasRoomFor 13 = .ok (.goto 4, 3) := by decide +kernel
theorem dX8_hasRoomFor_16 : decode cX8_hasRoomFor 16 = .ok (.iconst 0, 1) := by decide +kernel
theorem dX8_hasRoomFor_17 : decode cX8_hasRoomFor 17 = .ok (.ireturn, 1) := by decide +kernel
theorem dX8_addNumber_0 : decode cX8_addNumber 0 = .ok (.bipush 24, 2) := by decide +kernel
theorem dX8_addNumber_2 : decode cX8_addNumber 2 = .ok (.istore_n 2, 1) := by decide +kernel
theorem dX8_addNumber_3 : decode cX8_addNumber 3 = .ok (.iload_n 2, 1) := by decide +kernel
theorem dX8_addNumber_4 : decode cX8_addNumber 4 = .ok (.ifCond .lt 45, 3) := by decide +kernel
theorem dX8_addNumber_7 : decode cX8_addNumber 7 = .ok (.aload_n 0, 1) := by decide +kernel
theorem dX8_addNumber_8 : decode cX8_addNumber 8 = .ok (.getfield 15, 3) := by decide +kernel
theorem dX8_addNumber_11 : decode cX8_addNumber 11 = .ok (.sipush 400, 3) := by decide +kernel
theorem dX8_addNumber_14 : decode cX8_addNumber 14 = .ok (.if_icmp .ge 29, 3) := by decide +kernel
theorem dX8_addNumber_17 : decode cX8_addNumber 17 = .ok (.aload_n 0, 1) := by decide +kernel
theorem dX8_addNumber_18 : decode cX8_addNumber 18 = .ok (.getfield 11, 3) := by decide +kernel
theorem dX8_addNumber_21 : decode cX8_addNumber 21 = .ok (.aload_n 0, 1) := by decide +kernel
theorem dX8_addNumber_22 : decode cX8_addNumber 22 = .ok (.getfield 15, 3) := by decide +kernel
theorem dX8_addNumber_25 : decode cX8_addNumber 25 = .ok (.iload_n 1, 1) := by decide +kernel
theorem dX8_addNumber_26 : decode cX8_addNumber 26 = .ok (.iload_n 2, 1) := by decide +kernel
theorem dX8_addNumber_27 : decode cX8_addNumber 27 = .ok (.iushr, 1) := by decide +kernel
theorem dX8_addNumber_28 : decode cX8_addNumber 28 = .ok (.sipush 255, 3) := by decide +kernel
theorem dX8_addNumber_31 : decode cX8_addNumber 31 = .ok (.iand, 1) := by decide +kernel
theorem dX8_addNumber_32 : decode cX8_addNumber 32 = .ok (.iastore, 1) := by decide +kernel
theorem dX8_addNumber_33 : decode cX8_addNumber 33 = .ok (.aload_n 0, 1) := by decide +kernel
theorem dX8_addNumber_34 : decode cX8_addNumber 34 = .ok (.dup, 1) := by decide +kernel
theorem dX8_addNumber_35 : decode cX8_addNumber 35 = .ok (.getfield 15, 3) := by decide +kernel
theorem dX8_addNumber_38 : decode cX8_addNumber 38 = .ok (.iconst 1, 1) := by decide +kernel
theorem dX8_addNumber_39 : decode cX8_addNumber 39 = .ok (.iadd, 1) := by decide +kernel
theorem dX8_addNumber_40 : decode cX8_addNumber 40 = .ok (.putfield 15, 3) := by decide +kernel
theorem dX8_addNumber_43 : decode cX8_addNumber 43 = .ok (.iinc 2 (-8), 3) := by decide +kernel
theorem dX8_addNumber_46 : decode cX8_addNumber 46 = .ok (.goto (-43), 3) := by decide +kernel
theorem dX8_addNumber_49 : decode cX8_addNumber 49 = .ok (.return_, 1) := by decide +kernel
theorem dX8_pairAt_0 : decode cX8_pairAt 0 = .ok (.iload_n 1, 1) := by decide +kernel
theorem dX8_pairAt_1 : decode cX8_pairAt 1 = .ok (.ifCond .lt 12, 3) := by decide +kernel
theorem dX8_pairAt_4 : decode cX8_pairAt 4 = .ok (.iload_n 1, 1) := by decide +kernel
theorem dX8_pairAt_5 : decode cX8_pairAt 5 = .ok (.iconst 1, 1) := by decide +kernel
theorem dX8_pairAt_6 : decode cX8_pairAt 6 = .ok (.iadd, 1) := by decide +kernel
theorem dX8_pairAt_7 : decode cX8_pairAt 7 = .ok (.sipush 400, 3) := by decide +kernel
theorem dX8_pairAt_10 : decode cX8_pairAt 10 = .ok (.if_icmp .lt 7, 3) := by decide +kernel
theorem dX8_pairAt_13 : decode cX8_pairAt 13 = .ok (.iconst 0, 1) := by decide +kernel
theorem dX8_pairAt_14 : decode cX8_pairAt 14 = .ok (.goto 22, 3) := by decide +kernel
theorem dX8_pairAt_17 : decode cX8_pairAt 17 = .ok (.aload_n 0, 1) := by decide +kernel
theorem dX8_pairAt_18 : decode cX8_pairAt 18 = .ok (.getfield 11, 3) := by decide +kernel
theorem dX8_pairAt_21 : decode cX8_pairAt 21 = .ok (.iload_n 1, 1) := by decide +kernel
theorem dX8_pairAt_22 : decode cX8_pairAt 22 = .ok (.iaload, 1) := by decide +kernel
theorem dX8_pairAt_23 : decode cX8_pairAt 23 = .ok (.sipush 256, 3) := by decide +kernel
theorem dX8_pairAt_26 : decode cX8_pairAt 26 = .ok (.imul, 1) := by decide +kernel
theorem dX8_pairAt_27 : decode cX8_pairAt 27 = .ok (.aload_n 0, 1) := by decide +kernel
theorem dX8_pairAt_28 : decode cX8_pairAt 28 = .ok (.getfield 11, 3) := by decide +kernel
theorem dX8_pairAt_31 : decode cX8_pairAt 31 = .ok (.iload_n 1, 1) := by decide +kernel
theorem dX8_pairAt_32 : decode cX8_pairAt 32 = .ok (.iconst 1, 1) := by decide +kernel
theorem dX8_pairAt_33 : decode cX8_pairAt 33 = .ok (.iadd, 1) := by decide +kernel
theorem dX8_pairAt_34 : decode cX8_pairAt 34 = .ok (.iaload, 1) := by decide +kernel
theorem dX8_pairAt_35 : decode cX8_pairAt 35 = .ok (.iadd, 1) := by decide +kernel
theorem dX8_pairAt_36 : decode cX8_pairAt 36 = .ok (.ireturn, 1) := by decide +kernel
theorem dX8_rewind_0 : decode cX8_rewind 0 = .ok (.aload_n 0, 1) := by decide +kernel
theorem dX8_rewind_1 : decode cX8_rewind 1 = .ok (.iconst 0, 1) := by decide +kernel
theorem dX8_rewind_2 : decode cX8_rewind 2 = .ok (.putfield 19, 3) := by decide +kernel
theorem dX8_rewind_5 : decode cX8_rewind 5 = .ok (.aload_n 0, 1) := by decide +kernel
theorem dX8_rewind_6 : decode cX8_rewind 6 = .ok (.invokevirtual 22, 3) := by decide +kernel
theorem dX8_rewind_9 : decode cX8_rewind 9 = .ok (.return_, 1) := by decide +kernel
theorem dX8_step_0 : decode cX8_step 0 = .ok (.aload_n 0, 1) := by decide +kernel
theorem dX8_step_1 : decode cX8_step 1 = .ok (.getfield 19, 3) := by decide +kernel
theorem dX8_step_4 : decode cX8_step 4 = .ok (.istore_n 1, 1) := by decide +kernel
theorem dX8_step_5 : decode cX8_step 5 = .ok (.iload_n 1, 1) := by decide +kernel
theorem dX8_step_6 : decode cX8_step 6 = .ok (.aload_n 0, 1) := by decide +kernel
theorem dX8_step_7 : decode cX8_step 7 = .ok (.getfield 15, 3) := by decide +kernel
theorem dX8_step_10 : decode cX8_step 10 = .ok (.if_icmp .ge 20, 3) := by decide +kernel
theorem dX8_step_13 : decode cX8_step 13 = .ok (.aload_n 0, 1) := by decide +kernel
theorem dX8_step_14 : decode cX8_step 14 = .ok (.getfield 11, 3) := by decide +kernel
theorem dX8_step_17 : decode cX8_step 17 = .ok (.iload_n 1, 1) := by decide +kernel
theorem dX8_step_18 : decode cX8_step 18 = .ok (.iaload, 1) := by decide +kernel
theorem dX8_step_19 : decode cX8_step 19 = .ok (.bipush 32, 2) := by decide +kernel
theorem dX8_step_21 : decode cX8_step 21 = .ok (.if_icmp .ne 9, 3) := by decide +kernel
theorem dX8_step_24 : decode cX8_step 24 = .ok (.iinc 1 1, 3) := by decide +kernel
theorem dX8_step_27 : decode cX8_step 27 = .ok (.goto (-22), 3) := by decide +kernel
theorem dX8_step_30 : decode cX8_step 30 = .ok (.aload_n 0, 1) := by decide +kernel
theorem dX8_step_31 : decode cX8_step 31 = .ok (.iload_n 1, 1) := by decide +kernel
theorem dX8_step_32 : decode cX8_step 32 = .ok (.putfield 25, 3) := by decide +kernel
theorem dX8_step_35 : decode cX8_step 35 = .ok (.aload_n 0, 1) := by decide +kernel
theorem dX8_step_36 : decode cX8_step 36 = .ok (.iload_n 1, 1) := by decide +kernel
theorem dX8_step_37 : decode cX8_step 37 = .ok (.aload_n 0, 1) := by decide +kernel
theorem dX8_step_38 : decode cX8_step 38 = .ok (.getfield 15, 3) := by decide +kernel
theorem dX8_step_41 : decode cX8_step 41 = .ok (.if_icmp .ge 15, 3) := by decide +kernel
theorem dX8_step_44 : decode cX8_step 44 = .ok (.aload_n 0, 1) := by decide +kernel
theorem dX8_step_45 : decode cX8_step 45 = .ok (.getfield 11, 3) := by decide +kernel
theorem dX8_step_48 : decode cX8_step 48 = .ok (.iload_n 1, 1) := by decide +kernel
theorem dX8_step_49 : decode cX8_step 49 = .ok (.iaload, 1) := by decide +kernel
theorem dX8_step_50 : decode cX8_step 50 = .ok (.invokestatic 28, 3) := by decide +kernel
theorem dX8_step_53 : decode cX8_step 53 = .ok (.goto 4, 3) := by decide +kernel
theorem dX8_step_56 : decode cX8_step 56 = .ok (.iconst 0, 1) := by decide +kernel
theorem dX8_step_57 : decode cX8_step 57 = .ok (.putfield 32, 3) := by decide +kernel
theorem dX8_step_60 : decode cX8_step 60 = .ok (.aload_n 0, 1) := by decide +kernel
theorem dX8_step_61 : decode cX8_step 61 = .ok (.getfield 32, 3) := by decide +kernel
theorem dX8_step_64 : decode cX8_step 64 = .ok (.iconst 3, 1) := by decide +kernel
theorem dX8_step_65 : decode cX8_step 65 = .ok (.if_icmp .ne 9, 3) := by decide +kernel
theorem dX8_step_68 : decode cX8_step 68 = .ok (.iinc 1 1, 3) := by decide +kernel
theorem dX8_step_71 : decode cX8_step 71 = .ok (.goto 33, 3) := by decide +kernel
theorem dX8_step_74 : decode cX8_step 74 = .ok (.iload_n 1, 1) := by decide +kernel
theorem dX8_step_75 : decode cX8_step 75 = .ok (.aload_n 0, 1) := by decide +kernel
theorem dX8_step_76 : decode cX8_step 76 = .ok (.getfield 15, 3) := by decide +kernel
theorem dX8_step_79 : decode cX8_step 79 = .ok (.if_icmp .ge 25, 3) := by decide +kernel
theorem dX8_step_82 : decode cX8_step 82 = .ok (.aload_n 0, 1) := by decide +kernel
theorem dX8_step_83 : decode cX8_step 83 = .ok (.getfield 11, 3) := by decide +kernel
theorem dX8_step_86 : decode cX8_step 86 = .ok (.iload_n 1, 1) := by decide +kernel
theorem dX8_step_87 : decode cX8_step 87 = .ok (.iaload, 1) := by decide +kernel
theorem dX8_step_88 : decode cX8_step 88 = .ok (.invokestatic 28, 3) := by decide +kernel
theorem dX8_step_91 : decode cX8_step 91 = .ok (.aload_n 0, 1) := by decide +kernel
theorem dX8_step_92 : decode cX8_step 92 = .ok (.getfield 32, 3) := by decide +kernel
theorem dX8_step_95 : decode cX8_step 95 = .ok (.if_icmp .ne 9, 3) := by decide +kernel
theorem dX8_step_98 : decode cX8_step 98 = .ok (.iinc 1 1, 3) := by decide +kernel
theorem dX8_step_101 : decode cX8_step 101 = .ok (.goto (-27), 3) := by decide +kernel
theorem dX8_step_104 : decode cX8_step 104 = .ok (.aload_n 0, 1) := by decide +kernel
theorem dX8_step_105 : decode cX8_step 105 = .ok (.iload_n 1, 1) := by decide +kernel
theorem dX8_step_106 : decode cX8_step 106 = .ok (.putfield 19, 3) := by decide +kernel
theorem dX8_step_109 : decode cX8_step 109 = .ok (.return_, 1) := by decide +kernel
theorem dX8_kindOf_0 : decode cX8_kindOf 0 = .ok (.iload_n 0, 1) := by decide +kernel
theorem dX8_kindOf_1 : decode cX8_kindOf 1 = .ok (.bipush 97, 2) := by decide +kernel
theorem dX8_kindOf_3 : decode cX8_kindOf 3 = .ok (.if_icmp .lt 11, 3) := by decide +kernel
theorem dX8_kindOf_6 : decode cX8_kindOf 6 = .ok (.iload_n 0, 1) := by decide +kernel
theorem dX8_kindOf_7 : decode cX8_kindOf 7 = .ok (.bipush 122, 2) := by decide +kernel
theorem dX8_kindOf_9 : decode cX8_kindOf 9 = .ok (.if_icmp .gt 5, 3) := by decide +kernel
theorem dX8_kindOf_12 : decode cX8_kindOf 12 = .ok (.iconst 1, 1) := by decide +kernel
theorem dX8_kindOf_13 : decode cX8_kindOf 13 = .ok (.ireturn, 1) := by decide +kernel
theorem dX8_kindOf_14 : decode cX8_kindOf 14 = .ok (.iload_n 0, 1) := by decide +kernel
theorem dX8_kindOf_15 : decode cX8_kindOf 15 = .ok (.bipush 48, 2) := by decide +kernel
theorem dX8_kindOf_17 : decode cX8_kindOf 17 = .ok (.if_icmp .lt 13, 3) := by decide +kernel
theorem dX8_kindOf_20 : decode cX8_kindOf 20 = .ok (.iload_n 0, 1) := by decide +kernel
theorem dX8_kindOf_21 : decode cX8_kindOf 21 = .ok (.bipush 57, 2) := by decide +kernel
theorem dX8_kindOf_23 : decode cX8_kindOf 23 = .ok (.if_icmp .gt 7, 3) := by decide +kernel
theorem dX8_kindOf_26 : decode cX8_kindOf 26 = .ok (.iconst 2, 1) := by decide +kernel
theorem dX8_kindOf_27 : decode cX8_kindOf 27 = .ok (.goto 4, 3) := by decide +kernel
theorem dX8_kindOf_30 : decode cX8_kindOf 30 = .ok (.iconst 3, 1) := by decide +kernel
theorem dX8_kindOf_31 : decode cX8_kindOf 31 = .ok (.ireturn, 1) := by decide +kernel
theorem dX8_isWord_0 : decode cX8_isWord 0 = .ok (.aload_n 0, 1) := by decide +kernel
theorem dX8_isWord_1 : decode cX8_isWord 1 = .ok (.getfield 32, 3) := by decide +kernel
theorem dX8_isWord_4 : decode cX8_isWord 4 = .ok (.iconst 1, 1) := by decide +kernel
theorem dX8_isWord_5 : decode cX8_isWord 5 = .ok (.if_icmp .ne 19, 3) := by decide +kernel
theorem dX8_isWord_8 : decode cX8_isWord 8 = .ok (.aload_n 0, 1) := by decide +kernel
theorem dX8_isWord_9 : decode cX8_isWord 9 = .ok (.getfield 19, 3) := by decide +kernel
theorem dX8_isWord_12 : decode cX8_isWord 12 = .ok (.aload_n 0, 1) := by decide +kernel
theorem dX8_isWord_13 : decode cX8_isWord 13 = .ok (.getfield 25, 3) := by decide +kernel
theorem dX8_isWord_16 : decode cX8_isWord 16 = .ok (.isub, 1) := by decide +kernel
theorem dX8_isWord_17 : decode cX8_isWord 17 = .ok (.aload_n 1, 1) := by decide +kernel
theorem dX8_isWord_18 : decode cX8_isWord 18 = .ok (.invokevirtual 35, 3) := by decide +kernel
theorem dX8_isWord_21 : decode cX8_isWord 21 = .ok (.if_icmp .eq 5, 3) := by decide +kernel
theorem dX8_isWord_24 : decode cX8_isWord 24 = .ok (.iconst 0, 1) := by decide +kernel
theorem dX8_isWord_25 : decode cX8_isWord 25 = .ok (.ireturn, 1) := by decide +kernel
theorem dX8_isWord_26 : decode cX8_isWord 26 = .ok (.iconst 0, 1) := by decide +kernel
theorem dX8_isWord_27 : decode cX8_isWord 27 = .ok (.istore_n 2, 1) := by decide +kernel
theorem dX8_isWord_28 : decode cX8_isWord 28 = .ok (.iload_n 2, 1) := by decide +kernel
theorem dX8_isWord_29 : decode cX8_isWord 29 = .ok (.aload_n 1, 1) := by decide +kernel
theorem dX8_isWord_30 : decode cX8_isWord 30 = .ok (.invokevirtual 35, 3) := by decide +kernel
theorem dX8_isWord_33 : decode cX8_isWord 33 = .ok (.if_icmp .ge 30, 3) := by decide +kernel
theorem dX8_isWord_36 : decode cX8_isWord 36 = .ok (.aload_n 0, 1) := by decide +kernel
theorem dX8_isWord_37 : decode cX8_isWord 37 = .ok (.getfield 11, 3) := by decide +kernel
theorem dX8_isWord_40 : decode cX8_isWord 40 = .ok (.aload_n 0, 1) := by decide +kernel
theorem dX8_isWord_41 : decode cX8_isWord 41 = .ok (.getfield 25, 3) := by decide +kernel
theorem dX8_isWord_44 : decode cX8_isWord 44 = .ok (.iload_n 2, 1) := by decide +kernel
theorem dX8_isWord_45 : decode cX8_isWord 45 = .ok (.iadd, 1) := by decide +kernel
theorem dX8_isWord_46 : decode cX8_isWord 46 = .ok (.iaload, 1) := by decide +kernel
theorem dX8_isWord_47 : decode cX8_isWord 47 = .ok (.aload_n 1, 1) := by decide +kernel
theorem dX8_isWord_48 : decode cX8_isWord 48 = .ok (.iload_n 2, 1) := by decide +kernel
theorem dX8_isWord_49 : decode cX8_isWord 49 = .ok (.invokevirtual 40, 3) := by decide +kernel
theorem dX8_isWord_52 : decode cX8_isWord 52 = .ok (.if_icmp .eq 5, 3) := by decide +kernel
theorem dX8_isWord_55 : decode cX8_isWord 55 = .ok (.iconst 0, 1) := by decide +kernel
theorem dX8_isWord_56 : decode cX8_isWord 56 = .ok (.ireturn, 1) := by decide +kernel
theorem dX8_isWord_57 : decode cX8_isWord 57 = .ok (.iinc 2 1, 3) := by decide +kernel
theorem dX8_isWord_60 : decode cX8_isWord 60 = .ok (.goto (-32), 3) := by decide +kernel
theorem dX8_isWord_63 : decode cX8_isWord 63 = .ok (.iconst 1, 1) := by decide +kernel
theorem dX8_isWord_64 : decode cX8_isWord 64 = .ok (.ireturn, 1) := by decide +kernel
theorem dX8_isMark_0 : decode cX8_isMark 0 = .ok (.aload_n 0, 1) := by decide +kernel
theorem dX8_isMark_1 : decode cX8_isMark 1 = .ok (.getfield 32, 3) := by decide +kernel
theorem dX8_isMark_4 : decode cX8_isMark 4 = .ok (.iconst 3, 1) := by decide +kernel
theorem dX8_isMark_5 : decode cX8_isMark 5 = .ok (.if_icmp .ne 20, 3) := by decide +kernel
theorem dX8_isMark_8 : decode cX8_isMark 8 = .ok (.aload_n 0, 1) := by decide +kernel
theorem dX8_isMark_9 : decode cX8_isMark 9 = .ok (.getfield 11, 3) := by decide +kernel
theorem dX8_isMark_12 : decode cX8_isMark 12 = .ok (.aload_n 0, 1) := by decide +kernel
theorem dX8_isMark_13 : decode cX8_isMark 13 = .ok (.getfield 25, 3) := by decide +kernel
theorem dX8_isMark_16 : decode cX8_isMark 16 = .ok (.iaload, 1) := by decide +kernel
theorem dX8_isMark_17 : decode cX8_isMark 17 = .ok (.iload_n 1, 1) := by decide +kernel
theorem dX8_isMark_18 : decode cX8_isMark 18 = .ok (.if_icmp .ne 7, 3) := by decide +kernel
theorem dX8_isMark_21 : decode cX8_isMark 21 = .ok (.iconst 1, 1) := by decide +kernel
theorem dX8_isMark_22 : decode cX8_isMark 22 = .ok (.goto 4, 3) := by decide +kernel
theorem dX8_isMark_25 : decode cX8_isMark 25 = .ok (.iconst 0, 1) := by decide +kernel
theorem dX8_isMark_26 : decode cX8_isMark 26 = .ok (.ireturn, 1) := by decide +kernel
theorem dX8_takesWord_0 : decode cX8_takesWord 0 = .ok (.aload_n 0, 1) := by decide +kernel
theorem dX8_takesWord_1 : decode cX8_takesWord 1 = .ok (.aload_n 1, 1) := by decide +kernel
theorem dX8_takesWord_2 : decode cX8_takesWord 2 = .ok (.invokevirtual 44, 3) := by decide +kernel
theorem dX8_takesWord_5 : decode cX8_takesWord 5 = .ok (.ifCond .ne 5, 3) := by decide +kernel
theorem dX8_takesWord_8 : decode cX8_takesWord 8 = .ok (.iconst 0, 1) := by decide +kernel
theorem dX8_takesWord_9 : decode cX8_takesWord 9 = .ok (.ireturn, 1) := by decide +kernel
theorem dX8_takesWord_10 : decode cX8_takesWord 10 = .ok (.aload_n 0, 1) := by decide +kernel
theorem dX8_takesWord_11 : decode cX8_takesWord 11 = .ok (.invokevirtual 22, 3) := by decide +kernel
theorem dX8_takesWord_14 : decode cX8_takesWord 14 = .ok (.iconst 1, 1) := by decide +kernel
theorem dX8_takesWord_15 : decode cX8_takesWord 15 = .ok (.ireturn, 1) := by decide +kernel
theorem dX8_takesMark_0 : decode cX8_takesMark 0 = .ok (.aload_n 0, 1) := by decide +kernel
theorem dX8_takesMark_1 : decode cX8_takesMark 1 = .ok (.iload_n 1, 1) := by decide +kernel
theorem dX8_takesMark_2 : decode cX8_takesMark 2 = .ok (.invokevirtual 48, 3) := by decide +kernel
theorem dX8_takesMark_5 : decode cX8_takesMark 5 = .ok (.ifCond .ne 5, 3) := by decide +kernel
theorem dX8_takesMark_8 : decode cX8_takesMark 8 = .ok (.iconst 0, 1) := by decide +kernel
theorem dX8_takesMark_9 : decode cX8_takesMark 9 = .ok (.ireturn, 1) := by decide +kernel
theorem dX8_takesMark_10 : decode cX8_takesMark 10 = .ok (.aload_n 0, 1) := by decide +kernel
theorem dX8_takesMark_11 : decode cX8_takesMark 11 = .ok (.invokevirtual 22, 3) := by decide +kernel
theorem dX8_takesMark_14 : decode cX8_takesMark 14 = .ok (.iconst 1, 1) := by decide +kernel
theorem dX8_takesMark_15 : decode cX8_takesMark 15 = .ok (.ireturn, 1) := by decide +kernel
theorem dX8_numberWithin_0 : decode cX8_numberWithin 0 = .ok (.aload_n 0, 1) := by decide +kernel
theorem dX8_numberWithin_1 : decode cX8_numberWithin 1 = .ok (.getfield 32, 3) := by decide +kernel
theorem dX8_numberWithin_4 : decode cX8_numberWithin 4 = .ok (.iconst 2, 1) := by decide +kernel
theorem dX8_numberWithin_5 : decode cX8_numberWithin 5 = .ok (.if_icmp .ne 16, 3) := by decide +kernel
theorem dX8_numberWithin_8 : decode cX8_numberWithin 8 = .ok (.aload_n 0, 1) := by decide +kernel
theorem dX8_numberWithin_9 : decode cX8_numberWithin 9 = .ok (.getfield 19, 3) := by decide +kernel
theorem dX8_numberWithin_12 : decode cX8_numberWithin 12 = .ok (.aload_n 0, 1) := by decide +kernel
theorem dX8_numberWithin_13 : decode cX8_numberWithin 13 = .ok (.getfield 25, 3) := by decide +kernel
theorem dX8_numberWithin_16 : decode cX8_numberWithin 16 = .ok (.isub, 1) := by decide +kernel
theorem dX8_numberWithin_17 : decode cX8_numberWithin 17 = .ok (.iconst 3, 1) := by decide +kernel
theorem dX8_numberWithin_18 : decode cX8_numberWithin 18 = .ok (.if_icmp .le 5, 3) := by decide +kernel
theorem dX8_numberWithin_21 : decode cX8_numberWithin 21 = .ok (.iconst (-1), 1) := by decide +kernel
theorem dX8_numberWithin_22 : decode cX8_numberWithin 22 = .ok (.ireturn, 1) := by decide +kernel
theorem dX8_numberWithin_23 : decode cX8_numberWithin 23 = .ok (.iconst 0, 1) := by decide +kernel
theorem dX8_numberWithin_24 : decode cX8_numberWithin 24 = .ok (.istore_n 3, 1) := by decide +kernel
theorem dX8_numberWithin_25 : decode cX8_numberWithin 25 = .ok (.aload_n 0, 1) := by decide +kernel
theorem dX8_numberWithin_26 : decode cX8_numberWithin 26 = .ok (.getfield 25, 3) := by decide +kernel
theorem dX8_numberWithin_29 : decode cX8_numberWithin 29 = .ok (.istore 4, 2) := by decide +kernel
theorem dX8_numberWithin_31 : decode cX8_numberWithin 31 = .ok (.iload 4, 2) := by decide +kernel
theorem dX8_numberWithin_33 : decode cX8_numberWithin 33 = .ok (.aload_n 0, 1) := by decide +kernel
theorem dX8_numberWithin_34 : decode cX8_numberWithin 34 = .ok (.getfield 19, 3) := by decide +kernel
theorem dX8_numberWithin_37 : decode cX8_numberWithin 37 = .ok (.if_icmp .ge 25, 3) := by decide +kernel
theorem dX8_numberWithin_40 : decode cX8_numberWithin 40 = .ok (.iload_n 3, 1) := by decide +kernel
theorem dX8_numberWithin_41 : decode cX8_numberWithin 41 = .ok (.bipush 10, 2) := by decide +kernel
theorem dX8_numberWithin_43 : decode cX8_numberWithin 43 = .ok (.imul, 1) := by decide +kernel
theorem dX8_numberWithin_44 : decode cX8_numberWithin 44 = .ok (.aload_n 0, 1) := by decide +kernel
theorem dX8_numberWithin_45 : decode cX8_numberWithin 45 = .ok (.getfield 11, 3) := by decide +kernel
theorem dX8_numberWithin_48 : decode cX8_numberWithin 48 = .ok (.iload 4, 2) := by decide +kernel
theorem dX8_numberWithin_50 : decode cX8_numberWithin 50 = .ok (.iaload, 1) := by decide +kernel
theorem dX8_numberWithin_51 : decode cX8_numberWithin 51 = .ok (.iadd, 1) := by decide +kernel
theorem dX8_numberWithin_52 : decode cX8_numberWithin 52 = .ok (.bipush 48, 2) := by decide +kernel
theorem dX8_numberWithin_54 : decode cX8_numberWithin 54 = .ok (.isub, 1) := by decide +kernel
theorem dX8_numberWithin_55 : decode cX8_numberWithin 55 = .ok (.istore_n 3, 1) := by decide +kernel
theorem dX8_numberWithin_56 : decode cX8_numberWithin 56 = .ok (.iinc 4 1, 3) := by decide +kernel
theorem dX8_numberWithin_59 : decode cX8_numberWithin 59 = .ok (.goto (-28), 3) := by decide +kernel
theorem dX8_numberWithin_62 : decode cX8_numberWithin 62 = .ok (.iload_n 3, 1) := by decide +kernel
theorem dX8_numberWithin_63 : decode cX8_numberWithin 63 = .ok (.iload_n 1, 1) := by decide +kernel
theorem dX8_numberWithin_64 : decode cX8_numberWithin 64 = .ok (.if_icmp .lt 8, 3) := by decide +kernel
theorem dX8_numberWithin_67 : decode cX8_numberWithin 67 = .ok (.iload_n 3, 1) := by decide +kernel
theorem dX8_numberWithin_68 : decode cX8_numberWithin 68 = .ok (.iload_n 2, 1) := by decide +kernel
theorem dX8_numberWithin_69 : decode cX8_numberWithin 69 = .ok (.if_icmp .le 7, 3) := by decide +kernel
theorem dX8_numberWithin_72 : decode cX8_numberWithin 72 = .ok (.iconst (-1), 1) := by decide +kernel
theorem dX8_numberWithin_73 : decode cX8_numberWithin 73 = .ok (.goto 4, 3) := by decide +kernel
theorem dX8_numberWithin_76 : decode cX8_numberWithin 76 = .ok (.iload_n 3, 1) := by decide +kernel
theorem dX8_numberWithin_77 : decode cX8_numberWithin 77 = .ok (.ireturn, 1) := by decide +kernel
theorem dX8_isFigures_0 : decode cX8_isFigures 0 = .ok (.aload_n 0, 1) := by decide +kernel
theorem dX8_isFigures_1 : decode cX8_isFigures 1 = .ok (.getfield 32, 3) := by decide +kernel
theorem dX8_isFigures_4 : decode cX8_isFigures 4 = .ok (.iconst 2, 1) := by decide +kernel
theorem dX8_isFigures_5 : decode cX8_isFigures 5 = .ok (.if_icmp .ne 20, 3) := by decide +kernel
theorem dX8_isFigures_8 : decode cX8_isFigures 8 = .ok (.aload_n 0, 1) := by decide +kernel
theorem dX8_isFigures_9 : decode cX8_isFigures 9 = .ok (.getfield 19, 3) := by decide +kernel
theorem dX8_isFigures_12 : decode cX8_isFigures 12 = .ok (.aload_n 0, 1) := by decide +kernel
theorem dX8_isFigures_13 : decode cX8_isFigures 13 = .ok (.getfield 25, 3) := by decide +kernel
theorem dX8_isFigures_16 : decode cX8_isFigures 16 = .ok (.isub, 1) := by decide +kernel
theorem dX8_isFigures_17 : decode cX8_isFigures 17 = .ok (.iconst 5, 1) := by decide +kernel
theorem dX8_isFigures_18 : decode cX8_isFigures 18 = .ok (.if_icmp .ne 7, 3) := by decide +kernel
theorem dX8_isFigures_21 : decode cX8_isFigures 21 = .ok (.iconst 1, 1) := by decide +kernel
theorem dX8_isFigures_22 : decode cX8_isFigures 22 = .ok (.goto 4, 3) := by decide +kernel
theorem dX8_isFigures_25 : decode cX8_isFigures 25 = .ok (.iconst 0, 1) := by decide +kernel
theorem dX8_isFigures_26 : decode cX8_isFigures 26 = .ok (.ireturn, 1) := by decide +kernel
theorem dX8_figureOf_0 : decode cX8_figureOf 0 = .ok (.aload_n 0, 1) := by decide +kernel
theorem dX8_figureOf_1 : decode cX8_figureOf 1 = .ok (.getfield 11, 3) := by decide +kernel
theorem dX8_figureOf_4 : decode cX8_figureOf 4 = .ok (.aload_n 0, 1) := by decide +kernel
theorem dX8_figureOf_5 : decode cX8_figureOf 5 = .ok (.getfield 25, 3) := by decide +kernel
theorem dX8_figureOf_8 : decode cX8_figureOf 8 = .ok (.iload_n 1, 1) := by decide +kernel
theorem dX8_figureOf_9 : decode cX8_figureOf 9 = .ok (.iadd, 1) := by decide +kernel
theorem dX8_figureOf_10 : decode cX8_figureOf 10 = .ok (.iaload, 1) := by decide +kernel
theorem dX8_figureOf_11 : decode cX8_figureOf 11 = .ok (.bipush 48, 2) := by decide +kernel
theorem dX8_figureOf_13 : decode cX8_figureOf 13 = .ok (.isub, 1) := by decide +kernel
theorem dX8_figureOf_14 : decode cX8_figureOf 14 = .ok (.ireturn, 1) := by decide +kernel
theorem dX9_init_0 : decode cX9_init 0 = .ok (.aload_n 0, 1) := by decide +kernel
theorem dX9_init_1 : decode cX9_init 1 = .ok (.invokespecial 3, 3) := by decide +kernel
theorem dX9_init_4 : decode cX9_init 4 = .ok (.aload_n 0, 1) := by decide +kernel
theorem dX9_init_5 : decode cX9_init 5 = .ok (.aload_n 1, 1) := by decide +kernel
theorem dX9_init_6 : decode cX9_init 6 = .ok (.putfield 9, 3) := by decide +kernel
theorem dX9_init_9 : decode cX9_init 9 = .ok (.aload_n 0, 1) := by decide +kernel
theorem dX9_init_10 : decode cX9_init 10 = .ok (.iload_n 2, 1) := by decide +kernel
theorem dX9_init_11 : decode cX9_init 11 = .ok (.putfield 15, 3) := by decide +kernel
theorem dX9_init_14 : decode cX9_init 14 = .ok (.return_, 1) := by decide +kernel
theorem dX9_readsText_0 : decode cX9_readsText 0 = .ok (.aload_n 0, 1) := by decide +kernel
theorem dX9_readsText_1 : decode cX9_readsText 1 = .ok (.getfield 9, 3) := by decide +kernel
theorem dX9_readsText_4 : decode cX9_readsText 4 = .ok (.invokevirtual 19, 3) := by decide +kernel
theorem dX9_readsText_7 : decode cX9_readsText 7 = .ok (.aload_n 0, 1) := by decide +kernel
theorem dX9_readsText_8 : decode cX9_readsText 8 = .ok (.getfield 9, 3) := by decide +kernel
theorem dX9_readsText_11 : decode cX9_readsText 11 = .ok (.getfield 24, 3) := by decide +kernel
theorem dX9_readsText_14 : decode cX9_readsText 14 = .ok (.ifCond .ne 5, 3) := by decide +kernel
theorem dX9_readsText_17 : decode cX9_readsText 17 = .ok (.iconst 1, 1) := by decide +kernel
theorem dX9_readsText_18 : decode cX9_readsText 18 = .ok (.ireturn, 1) := by decide +kernel
theorem dX9_readsText_19 : decode cX9_readsText 19 = .ok (.iconst 0, 1) := by decide +kernel
theorem dX9_readsText_20 : decode cX9_readsText 20 = .ok (.istore_n 1, 1) := by decide +kernel
theorem dX9_readsText_21 : decode cX9_readsText 21 = .ok (.iload_n 1, 1) := by decide +kernel
theorem dX9_readsText_22 : decode cX9_readsText 22 = .ok (.aload_n 0, 1) := by decide +kernel
theorem dX9_readsText_23 : decode cX9_readsText 23 = .ok (.getfield 15, 3) := by decide +kernel
theorem dX9_readsText_26 : decode cX9_readsText 26 = .ok (.if_icmp .ge 44, 3) := by decide +kernel
theorem dX9_readsText_29 : decode cX9_readsText 29 = .ok (.aload_n 0, 1) := by decide +kernel
theorem dX9_readsText_30 : decode cX9_readsText 30 = .ok (.invokevirtual 27, 3) := by decide +kernel
theorem dX9_readsText_33 : decode cX9_readsText 33 = .ok (.ifCond .ne 5, 3) := by decide +kernel
theorem dX9_readsText_36 : decode cX9_readsText 36 = .ok (.iconst 0, 1) := by decide +kernel
theorem dX9_readsText_37 : decode cX9_readsText 37 = .ok (.ireturn, 1) := by decide +kernel
theorem dX9_readsText_38 : decode cX9_readsText 38 = .ok (.aload_n 0, 1) := by decide +kernel
theorem dX9_readsText_39 : decode cX9_readsText 39 = .ok (.getfield 9, 3) := by decide +kernel
theorem dX9_readsText_42 : decode cX9_readsText 42 = .ok (.getfield 24, 3) := by decide +kernel
theorem dX9_readsText_45 : decode cX9_readsText 45 = .ok (.ifCond .ne 5, 3) := by decide +kernel
theorem dX9_readsText_48 : decode cX9_readsText 48 = .ok (.iconst 1, 1) := by decide +kernel
theorem dX9_readsText_49 : decode cX9_readsText 49 = .ok (.ireturn, 1) := by decide +kernel
theorem dX9_readsText_50 : decode cX9_readsText 50 = .ok (.aload_n 0, 1) := by decide +kernel
theorem dX9_readsText_51 : decode cX9_readsText 51 = .ok (.getfield 9, 3) := by decide +kernel
theorem dX9_readsText_54 : decode cX9_readsText 54 = .ok (.bipush 59, 2) := by decide +kernel
theorem dX9_readsText_56 : decode cX9_readsText 56 = .ok (.invokevirtual 31, 3) := by decide +kernel
theorem dX9_readsText_59 : decode cX9_readsText 59 = .ok (.ifCond .ne 5, 3) := by decide +kernel
theorem dX9_readsText_62 : decode cX9_readsText 62 = .ok (.iconst 0, 1) := by decide +kernel
theorem dX9_readsText_63 : decode cX9_readsText 63 = .ok (.ireturn, 1) := by decide +kernel
theorem dX9_readsText_64 : decode cX9_readsText 64 = .ok (.iinc 1 1, 3) := by decide +kernel
theorem dX9_readsText_67 : decode cX9_readsText 67 = .ok (.goto (-46), 3) := by decide +kernel
theorem dX9_readsText_70 : decode cX9_readsText 70 = .ok (.iconst 0, 1) := by decide +kernel
theorem dX9_readsText_71 : decode cX9_readsText 71 = .ok (.ireturn, 1) := by decide +kernel
theorem dX9_readNumber_0 : decode cX9_readNumber 0 = .ok (.aload_n 0, 1) := by decide +kernel
theorem dX9_readNumber_1 : decode cX9_readNumber 1 = .ok (.getfield 9, 3) := by decide +kernel
theorem dX9_readNumber_4 : decode cX9_readNumber 4 = .ok (.iload_n 1, 1) := by decide +kernel
theorem dX9_readNumber_5 : decode cX9_readNumber 5 = .ok (.iload_n 2, 1) := by decide +kernel
theorem dX9_readNumber_6 : decode cX9_readNumber 6 = .ok (.invokevirtual 35, 3) := by decide +kernel
theorem dX9_readNumber_9 : decode cX9_readNumber 9 = .ok (.istore_n 3, 1) := by decide +kernel
theorem dX9_readNumber_10 : decode cX9_readNumber 10 = .ok (.iload_n 3, 1) := by decide +kernel
theorem dX9_readNumber_11 : decode cX9_readNumber 11 = .ok (.iconst (-1), 1) := by decide +kernel
theorem dX9_readNumber_12 : decode cX9_readNumber 12 = .ok (.if_icmp .eq 10, 3) := by decide +kernel
theorem dX9_readNumber_15 : decode cX9_readNumber 15 = .ok (.aload_n 0, 1) := by decide +kernel
theorem dX9_readNumber_16 : decode cX9_readNumber 16 = .ok (.getfield 9, 3) := by decide +kernel
theorem dX9_readNumber_19 : decode cX9_readNumber 19 = .ok (.invokevirtual 39, 3) := by decide +kernel
theorem dX9_readNumber_22 : decode cX9_readNumber 22 = .ok (.iload_n 3, 1) := by decide +kernel
theorem dX9_readNumber_23 : decode cX9_readNumber 23 = .ok (.ireturn, 1) := by decide +kernel
theorem dX10_init_0 : decode cX10_init 0 = .ok (.aload_n 0, 1) := by decide +kernel
theorem dX10_init_1 : decode cX10_init 1 = .ok (.invokespecial 3, 3) := by decide +kernel
theorem dX10_init_4 : decode cX10_init 4 = .ok (.aload_n 0, 1) := by decide +kernel
theorem dX10_init_5 : decode cX10_init 5 = .ok (.bipush 13, 2) := by decide +kernel
theorem dX10_init_7 : decode cX10_init 7 = .ok (.newarray .int, 2) := by decide +kernel
theorem dX10_init_9 : decode cX10_init 9 = .ok (.putfield 9, 3) := by decide +kernel
theorem dX10_init_12 : decode cX10_init 12 = .ok (.aload_n 0, 1) := by decide +kernel
theorem dX10_init_13 : decode cX10_init 13 = .ok (.bipush 14, 2) := by decide +kernel
theorem dX10_init_15 : decode cX10_init 15 = .ok (.newarray .int, 2) := by decide +kernel
theorem dX10_init_17 : decode cX10_init 17 = .ok (.putfield 15, 3) := by decide +kernel
theorem dX10_init_20 : decode cX10_init 20 = .ok (.aload_n 0, 1) := by decide +kernel
theorem dX10_init_21 : decode cX10_init 21 = .ok (.bipush 14, 2) := by decide +kernel
theorem dX10_init_23 : decode cX10_init 23 = .ok (.newarray .int, 2) := by decide +kernel
theorem dX10_init_25 : decode cX10_init 25 = .ok (.putfield 18, 3) := by decide +kernel
theorem dX10_init_28 : decode cX10_init 28 = .ok (.aload_n 0, 1) := by decide +kernel
theorem dX10_init_29 : decode cX10_init 29 = .ok (.sipush 240, 3) := by decide +kernel
theorem dX10_init_32 : decode cX10_init 32 = .ok (.newarray .int, 2) := by decide +kernel
theorem dX10_init_34 : decode cX10_init 34 = .ok (.putfield 21, 3) := by decide +kernel
theorem dX10_init_37 : decode cX10_init 37 = .ok (.aload_n 0, 1) := by decide +kernel
theorem dX10_init_38 : decode cX10_init 38 = .ok (.iconst 1, 1) := by decide +kernel
theorem dX10_init_39 : decode cX10_init 39 = .ok (.putfield 24, 3) := by decide +kernel
theorem dX10_init_42 : decode cX10_init 42 = .ok (.aload_n 0, 1) := by decide +kernel
theorem dX10_init_43 : decode cX10_init 43 = .ok (.invokevirtual 28, 3) := by decide +kernel
theorem dX10_init_46 : decode cX10_init 46 = .ok (.return_, 1) := by decide +kernel
theorem dX10_beginWord_0 : decode cX10_beginWord 0 = .ok (.aload_n 0, 1) := by decide +kernel
theorem dX10_beginWord_1 : decode cX10_beginWord 1 = .ok (.getfield 9, 3) := by decide +kernel
theorem dX10_beginWord_4 : decode cX10_beginWord 4 = .ok (.iconst 3, 1) := by decide +kernel
theorem dX10_beginWord_5 : decode cX10_beginWord 5 = .ok (.invokestatic 31, 3) := by decide +kernel
theorem dX10_beginWord_8 : decode cX10_beginWord 8 = .ok (.aload_n 0, 1) := by decide +kernel
theorem dX10_beginWord_9 : decode cX10_beginWord 9 = .ok (.getfield 15, 3) := by decide +kernel
theorem dX10_beginWord_12 : decode cX10_beginWord 12 = .ok (.iconst 0, 1) := by decide +kernel
theorem dX10_beginWord_13 : decode cX10_beginWord 13 = .ok (.invokestatic 31, 3) := by decide +kernel
theorem dX10_beginWord_16 : decode cX10_beginWord 16 = .ok (.aload_n 0, 1) := by decide +kernel
theorem dX10_beginWord_17 : decode cX10_beginWord 17 = .ok (.getfield 18, 3) := by decide +kernel
theorem dX10_beginWord_20 : decode cX10_beginWord 20 = .ok (.iconst (-1), 1) := by decide +kernel
theorem dX10_beginWord_21 : decode cX10_beginWord 21 = .ok (.invokestatic 31, 3) := by decide +kernel
theorem dX10_beginWord_24 : decode cX10_beginWord 24 = .ok (.aload_n 0, 1) := by decide +kernel
theorem dX10_beginWord_25 : decode cX10_beginWord 25 = .ok (.iconst 0, 1) := by decide +kernel
theorem dX10_beginWord_26 : decode cX10_beginWord 26 = .ok (.putfield 37, 3) := by decide +kernel
theorem dX10_beginWord_29 : decode cX10_beginWord 29 = .ok (.aload_n 0, 1) := by decide +kernel
theorem dX10_beginWord_30 : decode cX10_beginWord 30 = .ok (.iconst (-1), 1) := by decide +kernel
theorem dX10_beginWord_31 : decode cX10_beginWord 31 = .ok (.putfield 40, 3) := by decide +kernel
theorem dX10_beginWord_34 : decode cX10_beginWord 34 = .ok (.return_, 1) := by decide +kernel
theorem dX10_copyFrom_0 : decode cX10_copyFrom 0 = .ok (.aload_n 1, 1) := by decide +kernel
theorem dX10_copyFrom_1 : decode cX10_copyFrom 1 = .ok (.getfield 9, 3) := by decide +kernel
theorem dX10_copyFrom_4 : decode cX10_copyFrom 4 = .ok (.iconst 0, 1) := by decide +kernel
theorem dX10_copyFrom_5 : decode cX10_copyFrom 5 = .ok (.aload_n 0, 1) := by decide +kernel
theorem dX10_copyFrom_6 : decode cX10_copyFrom 6 = .ok (.getfield 9, 3) := by decide +kernel
theorem dX10_copyFrom_9 : decode cX10_copyFrom 9 = .ok (.iconst 0, 1) := by decide +kernel
theorem dX10_copyFrom_10 : decode cX10_copyFrom 10 = .ok (.bipush 13, 2) := by decide +kernel
theorem dX10_copyFrom_12 : decode cX10_copyFrom 12 = .ok (.invokestatic 43, 3) := by decide +kernel
theorem dX10_copyFrom_15 : decode cX10_copyFrom 15 = .ok (.aload_n 1, 1) := by decide +kernel
theorem dX10_copyFrom_16 : decode cX10_copyFrom 16 = .ok (.getfield 15, 3) := by decide +kernel
theorem dX10_copyFrom_19 : decode cX10_copyFrom 19 = .ok (.iconst 0, 1) := by decide +kernel
theorem dX10_copyFrom_20 : decode cX10_copyFrom 20 = .ok (.aload_n 0, 1) := by decide +kernel
theorem dX10_copyFrom_21 : decode cX10_copyFrom 21 = .ok (.getfield 15, 3) := by decide +kernel
theorem dX10_copyFrom_24 : decode cX10_copyFrom 24 = .ok (.iconst 0, 1) := by decide +kernel
theorem dX10_copyFrom_25 : decode cX10_copyFrom 25 = .ok (.bipush 14, 2) := by decide +kernel
theorem dX10_copyFrom_27 : decode cX10_copyFrom 27 = .ok (.invokestatic 43, 3) := by decide +kernel
theorem dX10_copyFrom_30 : decode cX10_copyFrom 30 = .ok (.aload_n 1, 1) := by decide +kernel
theorem dX10_copyFrom_31 : decode cX10_copyFrom 31 = .ok (.getfield 18, 3) := by decide +kernel
theorem dX10_copyFrom_34 : decode cX10_copyFrom 34 = .ok (.iconst 0, 1) := by decide +kernel
theorem dX10_copyFrom_35 : decode cX10_copyFrom 35 = .ok (.aload_n 0, 1) := by decide +kernel
theorem dX10_copyFrom_36 : decode cX10_copyFrom 36 = .ok (.getfield 18, 3) := by decide +kernel
theorem dX10_copyFrom_39 : decode cX10_copyFrom 39 = .ok (.iconst 0, 1) := by decide +kernel
theorem dX10_copyFrom_40 : decode cX10_copyFrom 40 = .ok (.bipush 14, 2) := by decide +kernel
theorem dX10_copyFrom_42 : decode cX10_copyFrom 42 = .ok (.invokestatic 43, 3) := by decide +kernel
theorem dX10_copyFrom_45 : decode cX10_copyFrom 45 = .ok (.aload_n 0, 1) := by decide +kernel
theorem dX10_copyFrom_46 : decode cX10_copyFrom 46 = .ok (.aload_n 1, 1) := by decide +kernel
theorem dX10_copyFrom_47 : decode cX10_copyFrom 47 = .ok (.getfield 37, 3) := by decide +kernel
theorem dX10_copyFrom_50 : decode cX10_copyFrom 50 = .ok (.putfield 37, 3) := by decide +kernel
theorem dX10_copyFrom_53 : decode cX10_copyFrom 53 = .ok (.aload_n 0, 1) := by decide +kernel
theorem dX10_copyFrom_54 : decode cX10_copyFrom 54 = .ok (.aload_n 1, 1) := by decide +kernel
theorem dX10_copyFrom_55 : decode cX10_copyFrom 55 = .ok (.getfield 40, 3) := by decide +kernel
theorem dX10_copyFrom_58 : decode cX10_copyFrom 58 = .ok (.putfield 40, 3) := by decide +kernel
theorem dX10_copyFrom_61 : decode cX10_copyFrom 61 = .ok (.aload_n 0, 1) := by decide +kernel
theorem dX10_copyFrom_62 : decode cX10_copyFrom 62 = .ok (.aload_n 1, 1) := by decide +kernel
theorem dX10_copyFrom_63 : decode cX10_copyFrom 63 = .ok (.getfield 49, 3) := by decide +kernel
theorem dX10_copyFrom_66 : decode cX10_copyFrom 66 = .ok (.putfield 49, 3) := by decide +kernel
theorem dX10_copyFrom_69 : decode cX10_copyFrom 69 = .ok (.aload_n 0, 1) := by decide +kernel
theorem dX10_copyFrom_70 : decode cX10_copyFrom 70 = .ok (.aload_n 1, 1) := by decide +kernel
theorem dX10_copyFrom_71 : decode cX10_copyFrom 71 = .ok (.getfield 24, 3) := by decide +kernel
theorem dX10_copyFrom_74 : decode cX10_copyFrom 74 = .ok (.putfield 24, 3) := by decide +kernel
theorem dX10_copyFrom_77 : decode cX10_copyFrom 77 = .ok (.aload_n 0, 1) := by decide +kernel
theorem dX10_copyFrom_78 : decode cX10_copyFrom 78 = .ok (.aload_n 1, 1) := by decide +kernel
theorem dX10_copyFrom_79 : decode cX10_copyFrom 79 = .ok (.getfield 52, 3) := by decide +kernel
theorem dX10_copyFrom_82 : decode cX10_copyFrom 82 = .ok (.putfield 52, 3) := by decide +kernel
theorem dX10_copyFrom_85 : decode cX10_copyFrom 85 = .ok (.aload_n 1, 1) := by decide +kernel
theorem dX10_copyFrom_86 : decode cX10_copyFrom 86 = .ok (.getfield 21, 3) := by decide +kernel
theorem dX10_copyFrom_89 : decode cX10_copyFrom 89 = .ok (.iconst 0, 1) := by decide +kernel
theorem dX10_copyFrom_90 : decode cX10_copyFrom 90 = .ok (.aload_n 0, 1) := by decide +kernel
theorem dX10_copyFrom_91 : decode cX10_copyFrom 91 = .ok (.getfield 21, 3) := by decide +kernel
theorem dX10_copyFrom_94 : decode cX10_copyFrom 94 = .ok (.iconst 0, 1) := by decide +kernel
theorem dX10_copyFrom_95 : decode cX10_copyFrom 95 = .ok (.sipush 240, 3) := by decide +kernel
theorem dX10_copyFrom_98 : decode cX10_copyFrom 98 = .ok (.invokestatic 43, 3) := by decide +kernel
theorem dX10_copyFrom_101 : decode cX10_copyFrom 101 = .ok (.aload_n 0, 1) := by decide +kernel
theorem dX10_copyFrom_102 : decode cX10_copyFrom 102 = .ok (.aload_n 1, 1) := by decide +kernel
theorem dX10_copyFrom_103 : decode cX10_copyFrom 103 = .ok (.getfield 55, 3) := by decide +kernel
theorem dX10_copyFrom_106 : decode cX10_copyFrom 106 = .ok (.putfield 55, 3) := by decide +kernel
theorem dX10_copyFrom_109 : decode cX10_copyFrom 109 = .ok (.aload_n 0, 1) := by decide +kernel
theorem dX10_copyFrom_110 : decode cX10_copyFrom 110 = .ok (.aload_n 1, 1) := by decide +kernel
theorem dX10_copyFrom_111 : decode cX10_copyFrom 111 = .ok (.getfield 58, 3) := by decide +kernel
theorem dX10_copyFrom_114 : decode cX10_copyFrom 114 = .ok (.putfield 58, 3) := by decide +kernel
theorem dX10_copyFrom_117 : decode cX10_copyFrom 117 = .ok (.return_, 1) := by decide +kernel
theorem dX10_paintDay_0 : decode cX10_paintDay 0 = .ok (.aload_n 0, 1) := by decide +kernel
theorem dX10_paintDay_1 : decode cX10_paintDay 1 = .ok (.getfield 37, 3) := by decide +kernel
theorem dX10_paintDay_4 : decode cX10_paintDay 4 = .ok (.aload_n 0, 1) := by decide +kernel
theorem dX10_paintDay_5 : decode cX10_paintDay 5 = .ok (.getfield 40, 3) := by decide +kernel
theorem dX10_paintDay_8 : decode cX10_paintDay 8 = .ok (.iload_n 3, 1) := by decide +kernel
theorem dX10_paintDay_9 : decode cX10_paintDay 9 = .ok (.invokestatic 61, 3) := by decide +kernel
theorem dX10_paintDay_12 : decode cX10_paintDay 12 = .ok (.istore 4, 2) := by decide +kernel
theorem dX10_paintDay_14 : decode cX10_paintDay 14 = .ok (.iload 4, 2) := by decide +kernel
theorem dX10_paintDay_16 : decode cX10_paintDay 16 = .ok (.iconst (-1), 1) := by decide +kernel
theorem dX10_paintDay_17 : decode cX10_paintDay 17 = .ok (.if_icmp .eq 42, 3) := by decide +kernel
theorem dX10_paintDay_20 : decode cX10_paintDay 20 = .ok (.aload_n 0, 1) := by decide +kernel
theorem dX10_paintDay_21 : decode cX10_paintDay 21 = .ok (.dup, 1) := by decide +kernel
theorem dX10_paintDay_22 : decode cX10_paintDay 22 = .ok (.getfield 37, 3) := by decide +kernel
theorem dX10_paintDay_25 : decode cX10_paintDay 25 = .ok (.iconst 1, 1) := by decide +kernel
theorem dX10_paintDay_26 : decode cX10_paintDay 26 = .ok (.iload 4, 2) := by decide +kernel
theorem dX10_paintDay_28 : decode cX10_paintDay 28 = .ok (.ishl, 1) := by decide +kernel
theorem dX10_paintDay_29 : decode cX10_paintDay 29 = .ok (.ior, 1) := by decide +kernel
theorem dX10_paintDay_30 : decode cX10_paintDay 30 = .ok (.putfield 37, 3) := by decide +kernel
theorem dX10_paintDay_33 : decode cX10_paintDay 33 = .ok (.aload_n 0, 1) := by decide +kernel
theorem dX10_paintDay_34 : decode cX10_paintDay 34 = .ok (.getfield 18, 3) := by decide +kernel
theorem dX10_paintDay_37 : decode cX10_paintDay 37 = .ok (.iload 4, 2) := by decide +kernel
theorem dX10_paintDay_39 : decode cX10_paintDay 39 = .ok (.aload_n 0, 1) := by decide +kernel
theorem dX10_paintDay_40 : decode cX10_paintDay 40 = .ok (.getfield 52, 3) := by decide +kernel
theorem dX10_paintDay_43 : decode cX10_paintDay 43 = .ok (.iastore, 1) := by decide +kernel
theorem dX10_paintDay_44 : decode cX10_paintDay 44 = .ok (.aload_n 0, 1) := by decide +kernel
theorem dX10_paintDay_45 : decode cX10_paintDay 45 = .ok (.iload 4, 2) := by decide +kernel
theorem dX10_paintDay_47 : decode cX10_paintDay 47 = .ok (.iload_n 1, 1) := by decide +kernel
theorem dX10_paintDay_48 : decode cX10_paintDay 48 = .ok (.aload_n 0, 1) := by decide +kernel
theorem dX10_paintDay_49 : decode cX10_paintDay 49 = .ok (.iload 4, 2) := by decide +kernel
theorem dX10_paintDay_51 : decode cX10_paintDay 51 = .ok (.iload_n 2, 1) := by decide +kernel
theorem dX10_paintDay_52 : decode cX10_paintDay 52 = .ok (.iload_n 3, 1) := by decide +kernel
theorem dX10_paintDay_53 : decode cX10_paintDay 53 = .ok (.invokevirtual 65, 3) := by decide +kernel
theorem dX10_paintDay_56 : decode cX10_paintDay 56 = .ok (.invokevirtual 68, 3) := by decide +kernel
theorem dX10_paintDay_59 : decode cX10_paintDay 59 = .ok (.aload_n 0, 1) := by decide +kernel
theorem dX10_paintDay_60 : decode cX10_paintDay 60 = .ok (.iload 4, 2) := by decide +kernel
theorem dX10_paintDay_62 : decode cX10_paintDay 62 = .ok (.putfield 40, 3) := by decide +kernel
theorem dX10_paintDay_65 : decode cX10_paintDay 65 = .ok (.aload_n 0, 1) := by decide +kernel
theorem dX10_paintDay_66 : decode cX10_paintDay 66 = .ok (.dup, 1) := by decide +kernel
theorem dX10_paintDay_67 : decode cX10_paintDay 67 = .ok (.getfield 52, 3) := by decide +kernel
theorem dX10_paintDay_70 : decode cX10_paintDay 70 = .ok (.iconst 1, 1) := by decide +kernel
theorem dX10_paintDay_71 : decode cX10_paintDay 71 = .ok (.iadd, 1) := by decide +kernel
theorem dX10_paintDay_72 : decode cX10_paintDay 72 = .ok (.putfield 52, 3) := by decide +kernel
theorem dX10_paintDay_75 : decode cX10_paintDay 75 = .ok (.iload 4, 2) := by decide +kernel
theorem dX10_paintDay_77 : decode cX10_paintDay 77 = .ok (.ireturn, 1) := by decide +kernel
theorem dX10_slipBeside_0 : decode cX10_slipBeside 0 = .ok (.aload_n 0, 1) := by decide +kernel
theorem dX10_slipBeside_1 : decode cX10_slipBeside 1 = .ok (.invokevirtual 72, 3) := by decide +kernel
theorem dX10_slipBeside_4 : decode cX10_slipBeside 4 = .ok (.bipush 100, 2) := by decide +kernel
theorem dX10_slipBeside_6 : decode cX10_slipBeside 6 = .ok (.irem, 1) := by decide +kernel
theorem dX10_slipBeside_7 : decode cX10_slipBeside 7 = .ok (.iload_n 2, 1) := by decide +kernel
theorem dX10_slipBeside_8 : decode cX10_slipBeside 8 = .ok (.if_icmp .lt 5, 3) := by decide +kernel
theorem dX10_slipBeside_11 : decode cX10_slipBeside 11 = .ok (.iconst 0, 1) := by decide +kernel
theorem dX10_slipBeside_12 : decode cX10_slipBeside 12 = .ok (.ireturn, 1) := by decide +kernel
theorem dX10_slipBeside_13 : decode cX10_slipBeside 13 = .ok (.iload_n 1, 1) := by decide +kernel
theorem dX10_slipBeside_14 : decode cX10_slipBeside 14 = .ok (.iconst 1, 1) := by decide +kernel
theorem dX10_slipBeside_15 : decode cX10_slipBeside 15 = .ok (.iadd, 1) := by decide +kernel
theorem dX10_slipBeside_16 : decode cX10_slipBeside 16 = .ok (.iload_n 3, 1) := by decide +kernel
theorem dX10_slipBeside_17 : decode cX10_slipBeside 17 = .ok (.if_icmp .ge 7, 3) := by decide +kernel
theorem dX10_slipBeside_20 : decode cX10_slipBeside 20 = .ok (.iload_n 1, 1) := by decide +kernel
theorem dX10_slipBeside_21 : decode cX10_slipBeside 21 = .ok (.goto 6, 3) := by decide +kernel
theorem dX10_slipBeside_24 : decode cX10_slipBeside 24 = .ok (.iload_n 1, 1) := by decide +kernel
theorem dX10_slipBeside_25 : decode cX10_slipBeside 25 = .ok (.iconst 1, 1) := by decide +kernel
theorem dX10_slipBeside_26 : decode cX10_slipBeside 26 = .ok (.isub, 1) := by decide +kernel
theorem dX10_slipBeside_27 : decode cX10_slipBeside 27 = .ok (.istore 4, 2) := by decide +kernel
theorem dX10_slipBeside_29 : decode cX10_slipBeside 29 = .ok (.iload 4, 2) := by decide +kernel
theorem dX10_slipBeside_31 : decode cX10_slipBeside 31 = .ok (.ifCond .ge 5, 3) := by decide +kernel
theorem dX10_slipBeside_34 : decode cX10_slipBeside 34 = .ok (.iconst 0, 1) := by decide +kernel
theorem dX10_slipBeside_35 : decode cX10_slipBeside 35 = .ok (.ireturn, 1) := by decide +kernel
theorem dX10_slipBeside_36 : decode cX10_slipBeside 36 = .ok (.aload_n 0, 1) := by decide +kernel
theorem dX10_slipBeside_37 : decode cX10_slipBeside 37 = .ok (.getfield 9, 3) := by decide +kernel
theorem dX10_slipBeside_40 : decode cX10_slipBeside 40 = .ok (.iload 4, 2) := by decide +kernel
theorem dX10_slipBeside_42 : decode cX10_slipBeside 42 = .ok (.iaload, 1) := by decide +kernel
theorem dX10_slipBeside_43 : decode cX10_slipBeside 43 = .ok (.istore 5, 2) := by decide +kernel
theorem dX10_slipBeside_45 : decode cX10_slipBeside 45 = .ok (.aload_n 0, 1) := by decide +kernel
theorem dX10_slipBeside_46 : decode cX10_slipBeside 46 = .ok (.invokevirtual 72, 3) := by decide +kernel
theorem dX10_slipBeside_49 : decode cX10_slipBeside 49 = .ok (.iconst 2, 1) := by decide +kernel
theorem dX10_slipBeside_50 : decode cX10_slipBeside 50 = .ok (.irem, 1) := by decide +kernel
theorem dX10_slipBeside_51 : decode cX10_slipBeside 51 = .ok (.ifCond .ne 10, 3) := by decide +kernel
theorem dX10_slipBeside_54 : decode cX10_slipBeside 54 = .ok (.iload 5, 2) := by decide +kernel
theorem dX10_slipBeside_56 : decode cX10_slipBeside 56 = .ok (.iconst 1, 1) := by decide +kernel
theorem dX10_slipBeside_57 : decode cX10_slipBeside 57 = .ok (.isub, 1) := by decide +kernel
theorem dX10_slipBeside_58 : decode cX10_slipBeside 58 = .ok (.goto 7, 3) := by decide +kernel
theorem dX10_slipBeside_61 : decode cX10_slipBeside 61 = .ok (.iload 5, 2) := by decide +kernel
theorem dX10_slipBeside_63 : decode cX10_slipBeside 63 = .ok (.iconst 1, 1) := by decide +kernel
theorem dX10_slipBeside_64 : decode cX10_slipBeside 64 = .ok (.iadd, 1) := by decide +kernel
theorem dX10_slipBeside_65 : decode cX10_slipBeside 65 = .ok (.istore 6, 2) := by decide +kernel
theorem dX10_slipBeside_67 : decode cX10_slipBeside 67 = .ok (.aload_n 0, 1) := by decide +kernel
theorem dX10_slipBeside_68 : decode cX10_slipBeside 68 = .ok (.getfield 9, 3) := by decide +kernel
theorem dX10_slipBeside_71 : decode cX10_slipBeside 71 = .ok (.iload 4, 2) := by decide +kernel
theorem dX10_slipBeside_73 : decode cX10_slipBeside 73 = .ok (.iconst 0, 1) := by decide +kernel
theorem dX10_slipBeside_74 : decode cX10_slipBeside 74 = .ok (.bipush 30, 2) := by decide +kernel
theorem dX10_slipBeside_76 : decode cX10_slipBeside 76 = .ok (.iload 6, 2) := by decide +kernel
theorem dX10_slipBeside_78 : decode cX10_slipBeside 78 = .ok (.invokestatic 76, 3) := by decide +kernel
theorem dX10_slipBeside_81 : decode cX10_slipBeside 81 = .ok (.invokestatic 82, 3) := by decide +kernel
theorem dX10_slipBeside_84 : decode cX10_slipBeside 84 = .ok (.iastore, 1) := by decide +kernel
theorem dX10_slipBeside_85 : decode cX10_slipBeside 85 = .ok (.aload_n 0, 1) := by decide +kernel
theorem dX10_slipBeside_86 : decode cX10_slipBeside 86 = .ok (.getfield 9, 3) := by decide +kernel
theorem dX10_slipBeside_89 : decode cX10_slipBeside 89 = .ok (.iload 4, 2) := by decide +kernel
theorem dX10_slipBeside_91 : decode cX10_slipBeside 91 = .ok (.iaload, 1) := by decide +kernel
theorem dX10_slipBeside_92 : decode cX10_slipBeside 92 = .ok (.iload 5, 2) := by decide +kernel
theorem dX10_slipBeside_94 : decode cX10_slipBeside 94 = .ok (.isub, 1) := by decide +kernel
theorem dX10_slipBeside_95 : decode cX10_slipBeside 95 = .ok (.ireturn, 1) := by decide +kernel
theorem dX10_draw_0 : decode cX10_draw 0 = .ok (.aload_n 0, 1) := by decide +kernel
theorem dX10_draw_1 : decode cX10_draw 1 = .ok (.ldc 85, 2) := by decide +kernel
theorem dX10_draw_3 : decode cX10_draw 3 = .ok (.aload_n 0, 1) := by decide +kernel
theorem dX10_draw_4 : decode cX10_draw 4 = .ok (.getfield 24, 3) := by decide +kernel
theorem dX10_draw_7 : decode cX10_draw 7 = .ok (.imul, 1) := by decide +kernel
theorem dX10_draw_8 : decode cX10_draw 8 = .ok (.sipush 12345, 3) := by decide +kernel
theorem dX10_draw_11 : decode cX10_draw 11 = .ok (.iadd, 1) := by decide +kernel
theorem dX10_draw_12 : decode cX10_draw 12 = .ok (.putfield 24, 3) := by decide +kernel
theorem dX10_draw_15 : decode cX10_draw 15 = .ok (.aload_n 0, 1) := by decide +kernel
theorem dX10_draw_16 : decode cX10_draw 16 = .ok (.getfield 24, 3) := by decide +kernel
theorem dX10_draw_19 : decode cX10_draw 19 = .ok (.bipush 16, 2) := by decide +kernel
theorem dX10_draw_21 : decode cX10_draw 21 = .ok (.iushr, 1) := by decide +kernel
theorem dX10_draw_22 : decode cX10_draw 22 = .ok (.sipush 32767, 3) := by decide +kernel
theorem dX10_draw_25 : decode cX10_draw 25 = .ok (.iand, 1) := by decide +kernel
theorem dX10_draw_26 : decode cX10_draw 26 = .ok (.ireturn, 1) := by decide +kernel
theorem dX10_writeLog_0 : decode cX10_writeLog 0 = .ok (.aload_n 0, 1) := by decide +kernel
theorem dX10_writeLog_1 : decode cX10_writeLog 1 = .ok (.getfield 58, 3) := by decide +kernel
theorem dX10_writeLog_4 : decode cX10_writeLog 4 = .ok (.iconst 4, 1) := by decide +kernel
theorem dX10_writeLog_5 : decode cX10_writeLog 5 = .ok (.imul, 1) := by decide +kernel
theorem dX10_writeLog_6 : decode cX10_writeLog 6 = .ok (.istore 4, 2) := by decide +kernel
theorem dX10_writeLog_8 : decode cX10_writeLog 8 = .ok (.aload_n 0, 1) := by decide +kernel
theorem dX10_writeLog_9 : decode cX10_writeLog 9 = .ok (.getfield 21, 3) := by decide +kernel
theorem dX10_writeLog_12 : decode cX10_writeLog 12 = .ok (.iload 4, 2) := by decide +kernel
theorem dX10_writeLog_14 : decode cX10_writeLog 14 = .ok (.aload_n 0, 1) := by decide +kernel
theorem dX10_writeLog_15 : decode cX10_writeLog 15 = .ok (.getfield 52, 3) := by decide +kernel
theorem dX10_writeLog_18 : decode cX10_writeLog 18 = .ok (.iastore, 1) := by decide +kernel
theorem dX10_writeLog_19 : decode cX10_writeLog 19 = .ok (.aload_n 0, 1) := by decide +kernel
theorem dX10_writeLog_20 : decode cX10_writeLog 20 = .ok (.getfield 21, 3) := by decide +kernel
theorem dX10_writeLog_23 : decode cX10_writeLog 23 = .ok (.iload 4, 2) := by decide +kernel
theorem dX10_writeLog_25 : decode cX10_writeLog 25 = .ok (.iconst 1, 1) := by decide +kernel
theorem dX10_writeLog_26 : decode cX10_writeLog 26 = .ok (.iadd, 1) := by decide +kernel
theorem dX10_writeLog_27 : decode cX10_writeLog 27 = .ok (.iload_n 1, 1) := by decide +kernel
theorem dX10_writeLog_28 : decode cX10_writeLog 28 = .ok (.iastore, 1) := by decide +kernel
theorem dX10_writeLog_29 : decode cX10_writeLog 29 = .ok (.aload_n 0, 1) := by decide +kernel
theorem dX10_writeLog_30 : decode cX10_writeLog 30 = .ok (.getfield 21, 3) := by decide +kernel
theorem dX10_writeLog_33 : decode cX10_writeLog 33 = .ok (.iload 4, 2) := by decide +kernel
theorem dX10_writeLog_35 : decode cX10_writeLog 35 = .ok (.iconst 2, 1) := by decide +kernel
theorem dX10_writeLog_36 : decode cX10_writeLog 36 = .ok (.iadd, 1) := by decide +kernel
theorem dX10_writeLog_37 : decode cX10_writeLog 37 = .ok (.iload_n 2, 1) := by decide +kernel
theorem dX10_writeLog_38 : decode cX10_writeLog 38 = .ok (.iastore, 1) := by decide +kernel
theorem dX10_writeLog_39 : decode cX10_writeLog 39 = .ok (.aload_n 0, 1) := by decide +kernel
theorem dX10_writeLog_40 : decode cX10_writeLog 40 = .ok (.getfield 21, 3) := by decide +kernel
theorem dX10_writeLog_43 : decode cX10_writeLog 43 = .ok (.iload 4, 2) := by decide +kernel
theorem dX10_writeLog_45 : decode cX10_writeLog 45 = .ok (.iconst 3, 1) := by decide +kernel
theorem dX10_writeLog_46 : decode cX10_writeLog 46 = .ok (.iadd, 1) := by decide +kernel
theorem dX10_writeLog_47 : decode cX10_writeLog 47 = .ok (.iload_n 3, 1) := by decide +kernel
theorem dX10_writeLog_48 : decode cX10_writeLog 48 = .ok (.iastore, 1) := by decide +kernel
theorem dX10_writeLog_49 : decode cX10_writeLog 49 = .ok (.aload_n 0, 1) := by decide +kernel
theorem dX10_writeLog_50 : decode cX10_writeLog 50 = .ok (.aload_n 0, 1) := by decide +kernel
theorem dX10_writeLog_51 : decode cX10_writeLog 51 = .ok (.getfield 58, 3) := by decide +kernel
theorem dX10_writeLog_54 : decode cX10_writeLog 54 = .ok (.iconst 1, 1) := by decide +kernel
theorem dX10_writeLog_55 : decode cX10_writeLog 55 = .ok (.iadd, 1) := by decide +kernel
theorem dX10_writeLog_56 : decode cX10_writeLog 56 = .ok (.bipush 60, 2) := by decide +kernel
theorem dX10_writeLog_58 : decode cX10_writeLog 58 = .ok (.irem, 1) := by decide +kernel
theorem dX10_writeLog_59 : decode cX10_writeLog 59 = .ok (.putfield 58, 3) := by decide +kernel
theorem dX10_writeLog_62 : decode cX10_writeLog 62 = .ok (.aload_n 0, 1) := by decide +kernel
theorem dX10_writeLog_63 : decode cX10_writeLog 63 = .ok (.bipush 60, 2) := by decide +kernel
theorem dX10_writeLog_65 : decode cX10_writeLog 65 = .ok (.aload_n 0, 1) := by decide +kernel
theorem dX10_writeLog_66 : decode cX10_writeLog 66 = .ok (.getfield 55, 3) := by decide +kernel
theorem dX10_writeLog_69 : decode cX10_writeLog 69 = .ok (.iconst 1, 1) := by decide +kernel
theorem dX10_writeLog_70 : decode cX10_writeLog 70 = .ok (.iadd, 1) := by decide +kernel
theorem dX10_writeLog_71 : decode cX10_writeLog 71 = .ok (.invokestatic 76, 3) := by decide +kernel
theorem dX10_writeLog_74 : decode cX10_writeLog 74 = .ok (.putfield 55, 3) := by decide +kernel
theorem dX10_writeLog_77 : decode cX10_writeLog 77 = .ok (.return_, 1) := by decide +kernel
theorem dX10_logged_0 : decode cX10_logged 0 = .ok (.aload_n 0, 1) := by decide +kernel
theorem dX10_logged_1 : decode cX10_logged 1 = .ok (.getfield 58, 3) := by decide +kernel
theorem dX10_logged_4 : decode cX10_logged 4 = .ok (.iconst 1, 1) := by decide +kernel
theorem dX10_logged_5 : decode cX10_logged 5 = .ok (.isub, 1) := by decide +kernel
theorem dX10_logged_6 : decode cX10_logged 6 = .ok (.iload_n 1, 1) := by decide +kernel
theorem dX10_logged_7 : decode cX10_logged 7 = .ok (.isub, 1) := by decide +kernel
theorem dX10_logged_8 : decode cX10_logged 8 = .ok (.bipush 60, 2) := by decide +kernel
theorem dX10_logged_10 : decode cX10_logged 10 = .ok (.invokestatic 86, 3) := by decide +kernel
theorem dX10_logged_13 : decode cX10_logged 13 = .ok (.istore_n 3, 1) := by decide +kernel
theorem dX10_logged_14 : decode cX10_logged 14 = .ok (.aload_n 0, 1) := by decide +kernel
theorem dX10_logged_15 : decode cX10_logged 15 = .ok (.getfield 21, 3) := by decide +kernel
theorem dX10_logged_18 : decode cX10_logged 18 = .ok (.iload_n 3, 1) := by decide +kernel
theorem dX10_logged_19 : decode cX10_logged 19 = .ok (.iconst 4, 1) := by decide +kernel
theorem dX10_logged_20 : decode cX10_logged 20 = .ok (.imul, 1) := by decide +kernel
theorem dX10_logged_21 : decode cX10_logged 21 = .ok (.iload_n 2, 1) := by decide +kernel
theorem dX10_logged_22 : decode cX10_logged 22 = .ok (.iadd, 1) := by decide +kernel
theorem dX10_logged_23 : decode cX10_logged 23 = .ok (.iaload, 1) := by decide +kernel
theorem dX10_logged_24 : decode cX10_logged 24 = .ok (.ireturn, 1) := by decide +kernel
theorem dX10_nextLetter_0 : decode cX10_nextLetter 0 = .ok (.iload_n 0, 1) := by decide +kernel
theorem dX10_nextLetter_1 : decode cX10_nextLetter 1 = .ok (.iload_n 1, 1) := by decide +kernel
theorem dX10_nextLetter_2 : decode cX10_nextLetter 2 = .ok (.invokestatic 89, 3) := by decide +kernel
theorem dX10_nextLetter_5 : decode cX10_nextLetter 5 = .ok (.ior, 1) := by decide +kernel
theorem dX10_nextLetter_6 : decode cX10_nextLetter 6 = .ok (.istore_n 3, 1) := by decide +kernel
theorem dX10_nextLetter_7 : decode cX10_nextLetter 7 = .ok (.iconst 0, 1) := by decide +kernel
theorem dX10_nextLetter_8 : decode cX10_nextLetter 8 = .ok (.istore 4, 2) := by decide +kernel
theorem dX10_nextLetter_10 : decode cX10_nextLetter 10 = .ok (.iload 4, 2) := by decide +kernel
theorem dX10_nextLetter_12 : decode cX10_nextLetter 12 = .ok (.iload_n 2, 1) := by decide +kernel
theorem dX10_nextLetter_13 : decode cX10_nextLetter 13 = .ok (.if_icmp .ge 21, 3) := by decide +kernel
theorem dX10_nextLetter_16 : decode cX10_nextLetter 16 = .ok (.iload_n 3, 1) := by decide +kernel
theorem dX10_nextLetter_17 : decode cX10_nextLetter 17 = .ok (.iload 4, 2) := by decide +kernel
theorem dX10_nextLetter_19 : decode cX10_nextLetter 19 = .ok (.ishr, 1) := by decide +kernel
theorem dX10_nextLetter_20 : decode cX10_nextLetter 20 = .ok (.iconst 1, 1) := by decide +kernel
theorem dX10_nextLetter_21 : decode cX10_nextLetter 21 = .ok (.iand, 1) := by decide +kernel
theorem dX10_nextLetter_22 : decode cX10_nextLetter 22 = .ok (.ifCond .ne 6, 3) := by decide +kernel
theorem dX10_nextLetter_25 : decode cX10_nextLetter 25 = .ok (.iload 4, 2) := by decide +kernel
theorem dX10_nextLetter_27 : decode cX10_nextLetter 27 = .ok (.ireturn, 1) := by decide +kernel
theorem dX10_nextLetter_28 : decode cX10_nextLetter 28 = .ok (.iinc 4 1, 3) := by decide +kernel
theorem dX10_nextLetter_31 : decode cX10_nextLetter 31 = .ok (.goto (-21), 3) := by decide +kernel
theorem dX10_nextLetter_34 : decode cX10_nextLetter 34 = .ok (.iconst (-1), 1) := by decide +kernel
theorem dX10_nextLetter_35 : decode cX10_nextLetter 35 = .ok (.ireturn, 1) := by decide +kernel
theorem dX10_beside_0 : decode cX10_beside 0 = .ok (.iload_n 0, 1) := by decide +kernel
theorem dX10_beside_1 : decode cX10_beside 1 = .ok (.iconst (-1), 1) := by decide +kernel
theorem dX10_beside_2 : decode cX10_beside 2 = .ok (.if_icmp .ne 7, 3) := by decide +kernel
theorem dX10_beside_5 : decode cX10_beside 5 = .ok (.iconst 0, 1) := by decide +kernel
theorem dX10_beside_6 : decode cX10_beside 6 = .ok (.goto 14, 3) := by decide +kernel
theorem dX10_beside_9 : decode cX10_beside 9 = .ok (.iconst 1, 1) := by decide +kernel
theorem dX10_beside_10 : decode cX10_beside 10 = .ok (.iload_n 0, 1) := by decide +kernel
theorem dX10_beside_11 : decode cX10_beside 11 = .ok (.ishl, 1) := by decide +kernel
theorem dX10_beside_12 : decode cX10_beside 12 = .ok (.iconst 1, 1) := by decide +kernel
theorem dX10_beside_13 : decode cX10_beside 13 = .ok (.ishl, 1) := by decide +kernel
theorem dX10_beside_14 : decode cX10_beside 14 = .ok (.iconst 1, 1) := by decide +kernel
theorem dX10_beside_15 : decode cX10_beside 15 = .ok (.iload_n 0, 1) := by decide +kernel
theorem dX10_beside_16 : decode cX10_beside 16 = .ok (.ishl, 1) := by decide +kernel
theorem dX10_beside_17 : decode cX10_beside 17 = .ok (.iconst 1, 1) := by decide +kernel
theorem dX10_beside_18 : decode cX10_beside 18 = .ok (.ishr, 1) := by decide +kernel
theorem dX10_beside_19 : decode cX10_beside 19 = .ok (.ior, 1) := by decide +kernel
theorem dX10_beside_20 : decode cX10_beside 20 = .ok (.ireturn, 1) := by decide +kernel
theorem dX10_orderOf_0 : decode cX10_orderOf 0 = .ok (.iconst 1, 1) := by decide +kernel
theorem dX10_orderOf_1 : decode cX10_orderOf 1 = .ok (.iload_n 2, 1) := by decide +kernel
theorem dX10_orderOf_2 : decode cX10_orderOf 2 = .ok (.ishl, 1) := by decide +kernel
theorem dX10_orderOf_3 : decode cX10_orderOf 3 = .ok (.iconst 1, 1) := by decide +kernel
theorem dX10_orderOf_4 : decode cX10_orderOf 4 = .ok (.isub, 1) := by decide +kernel
theorem dX10_orderOf_5 : decode cX10_orderOf 5 = .ok (.istore_n 3, 1) := by decide +kernel
theorem dX10_orderOf_6 : decode cX10_orderOf 6 = .ok (.aload_n 0, 1) := by decide +kernel
theorem dX10_orderOf_7 : decode cX10_orderOf 7 = .ok (.getfield 37, 3) := by decide +kernel
theorem dX10_orderOf_10 : decode cX10_orderOf 10 = .ok (.istore 4, 2) := by decide +kernel
theorem dX10_orderOf_12 : decode cX10_orderOf 12 = .ok (.aload_n 0, 1) := by decide +kernel
theorem dX10_orderOf_13 : decode cX10_orderOf 13 = .ok (.getfield 40, 3) := by decide +kernel
theorem dX10_orderOf_16 : decode cX10_orderOf 16 = .ok (.istore 5, 2) := by decide +kernel
theorem dX10_orderOf_18 : decode cX10_orderOf 18 = .ok (.iconst (-1), 1) := by decide +kernel
theorem dX10_orderOf_19 : decode cX10_orderOf 19 = .ok (.istore 6, 2) := by decide +kernel
theorem dX10_orderOf_21 : decode cX10_orderOf 21 = .ok (.iconst 0, 1) := by decide +kernel
theorem dX10_orderOf_22 : decode cX10_orderOf 22 = .ok (.istore 7, 2) := by decide +kernel
theorem dX10_orderOf_24 : decode cX10_orderOf 24 = .ok (.iload 4, 2) := by decide +kernel
theorem dX10_orderOf_26 : decode cX10_orderOf 26 = .ok (.iload_n 3, 1) := by decide +kernel
theorem dX10_orderOf_27 : decode cX10_orderOf 27 = .ok (.if_icmp .eq 51, 3) := by decide +kernel
theorem dX10_orderOf_30 : decode cX10_orderOf 30 = .ok (.iload 7, 2) := by decide +kernel
theorem dX10_orderOf_32 : decode cX10_orderOf 32 = .ok (.bipush 56, 2) := by decide +kernel
theorem dX10_orderOf_34 : decode cX10_orderOf 34 = .ok (.if_icmp .ge 44, 3) := by decide +kernel
theorem dX10_orderOf_37 : decode cX10_orderOf 37 = .ok (.iload 4, 2) := by decide +kernel
theorem dX10_orderOf_39 : decode cX10_orderOf 39 = .ok (.iload 5, 2) := by decide +kernel
theorem dX10_orderOf_41 : decode cX10_orderOf 41 = .ok (.iload_n 2, 1) := by decide +kernel
theorem dX10_orderOf_42 : decode cX10_orderOf 42 = .ok (.invokestatic 61, 3) := by decide +kernel
theorem dX10_orderOf_45 : decode cX10_orderOf 45 = .ok (.istore 5, 2) := by decide +kernel
theorem dX10_orderOf_47 : decode cX10_orderOf 47 = .ok (.iload 5, 2) := by decide +kernel
theorem dX10_orderOf_49 : decode cX10_orderOf 49 = .ok (.iconst (-1), 1) := by decide +kernel
theorem dX10_orderOf_50 : decode cX10_orderOf 50 = .ok (.if_icmp .eq 12, 3) := by decide +kernel
theorem dX10_orderOf_53 : decode cX10_orderOf 53 = .ok (.iload 4, 2) := by decide +kernel
theorem dX10_orderOf_55 : decode cX10_orderOf 55 = .ok (.iconst 1, 1) := by decide +kernel
theorem dX10_orderOf_56 : decode cX10_orderOf 56 = .ok (.iload 5, 2) := by decide +kernel
theorem dX10_orderOf_58 : decode cX10_orderOf 58 = .ok (.ishl, 1) := by decide +kernel
theorem dX10_orderOf_59 : decode cX10_orderOf 59 = .ok (.ior, 1) := by decide +kernel
theorem dX10_orderOf_60 : decode cX10_orderOf 60 = .ok (.istore 4, 2) := by decide +kernel
theorem dX10_orderOf_62 : decode cX10_orderOf 62 = .ok (.iload 7, 2) := by decide +kernel
theorem dX10_orderOf_64 : decode cX10_orderOf 64 = .ok (.iload_n 1, 1) := by decide +kernel
theorem dX10_orderOf_65 : decode cX10_orderOf 65 = .ok (.if_icmp .ne 7, 3) := by decide +kernel
theorem dX10_orderOf_68 : decode cX10_orderOf 68 = .ok (.iload 5, 2) := by decide +kernel
theorem dX10_orderOf_70 : decode cX10_orderOf 70 = .ok (.istore 6, 2) := by decide +kernel
theorem dX10_orderOf_72 : decode cX10_orderOf 72 = .ok (.iinc 7 1, 3) := by decide +kernel
theorem dX10_orderOf_75 : decode cX10_orderOf 75 = .ok (.goto (-51), 3) := by decide +kernel
theorem dX10_orderOf_78 : decode cX10_orderOf 78 = .ok (.iload_n 1, 1) := by decide +kernel
theorem dX10_orderOf_79 : decode cX10_orderOf 79 = .ok (.iconst (-1), 1) := by decide +kernel
theorem dX10_orderOf_80 : decode cX10_orderOf 80 = .ok (.if_icmp .ne 8, 3) := by decide +kernel
theorem dX10_orderOf_83 : decode cX10_orderOf 83 = .ok (.iload 7, 2) := by decide +kernel
theorem dX10_orderOf_85 : decode cX10_orderOf 85 = .ok (.goto 5, 3) := by decide +kernel
theorem dX10_orderOf_88 : decode cX10_orderOf 88 = .ok (.iload 6, 2) := by decide +kernel
theorem dX10_orderOf_90 : decode cX10_orderOf 90 = .ok (.ireturn, 1) := by decide +kernel
theorem dX10_fewestDays_0 : decode cX10_fewestDays 0 = .ok (.iconst 1, 1) := by decide +kernel
theorem dX10_fewestDays_1 : decode cX10_fewestDays 1 = .ok (.iload_n 1, 1) := by decide +kernel
theorem dX10_fewestDays_2 : decode cX10_fewestDays 2 = .ok (.ishl, 1) := by decide +kernel
theorem dX10_fewestDays_3 : decode cX10_fewestDays 3 = .ok (.iconst 1, 1) := by decide +kernel
theorem dX10_fewestDays_4 : decode cX10_fewestDays 4 = .ok (.isub, 1) := by decide +kernel
theorem dX10_fewestDays_5 : decode cX10_fewestDays 5 = .ok (.aload_n 0, 1) := by decide +kernel
theorem dX10_fewestDays_6 : decode cX10_fewestDays 6 = .ok (.getfield 37, 3) := by decide +kernel
theorem dX10_fewestDays_9 : decode cX10_fewestDays 9 = .ok (.iconst (-1), 1) := by decide +kernel
theorem dX10_fewestDays_10 : decode cX10_fewestDays 10 = .ok (.ixor, 1) := by decide +kernel
theorem dX10_fewestDays_11 : decode cX10_fewestDays 11 = .ok (.iand, 1) := by decide +kernel
theorem dX10_fewestDays_12 : decode cX10_fewestDays 12 = .ok (.istore_n 2, 1) := by decide +kernel
theorem dX10_fewestDays_13 : decode cX10_fewestDays 13 = .ok (.iload_n 2, 1) := by decide +kernel
theorem dX10_fewestDays_14 : decode cX10_fewestDays 14 = .ok (.invokestatic 93, 3) := by decide +kernel
theorem dX10_fewestDays_17 : decode cX10_fewestDays 17 = .ok (.istore_n 3, 1) := by decide +kernel
theorem dX10_fewestDays_18 : decode cX10_fewestDays 18 = .ok (.iload_n 3, 1) := by decide +kernel
theorem dX10_fewestDays_19 : decode cX10_fewestDays 19 = .ok (.bipush 12, 2) := by decide +kernel
theorem dX10_fewestDays_21 : decode cX10_fewestDays 21 = .ok (.if_icmp .le 6, 3) := by decide +kernel
theorem dX10_fewestDays_24 : decode cX10_fewestDays 24 = .ok (.bipush (-3), 2) := by decide +kernel
theorem dX10_fewestDays_26 : decode cX10_fewestDays 26 = .ok (.ireturn, 1) := by decide +kernel
theorem dX10_fewestDays_27 : decode cX10_fewestDays 27 = .ok (.aload_n 0, 1) := by decide +kernel
theorem dX10_fewestDays_28 : decode cX10_fewestDays 28 = .ok (.iload_n 2, 1) := by decide +kernel
theorem dX10_fewestDays_29 : decode cX10_fewestDays 29 = .ok (.iload_n 3, 1) := by decide +kernel
theorem dX10_fewestDays_30 : decode cX10_fewestDays 30 = .ok (.invokevirtual 98, 3) := by decide +kernel
theorem dX10_fewestDays_33 : decode cX10_fewestDays 33 = .ok (.ifCond .eq 9, 3) := by decide +kernel
theorem dX10_fewestDays_36 : decode cX10_fewestDays 36 = .ok (.iload_n 3, 1) := by decide +kernel
theorem dX10_fewestDays_37 : decode cX10_fewestDays 37 = .ok (.iconst 1, 1) := by decide +kernel
theorem dX10_fewestDays_38 : decode cX10_fewestDays 38 = .ok (.iadd, 1) := by decide +kernel
theorem dX10_fewestDays_39 : decode cX10_fewestDays 39 = .ok (.goto 4, 3) := by decide +kernel
theorem dX10_fewestDays_42 : decode cX10_fewestDays 42 = .ok (.iload_n 3, 1) := by decide +kernel
theorem dX10_fewestDays_43 : decode cX10_fewestDays 43 = .ok (.ireturn, 1) := by decide +kernel
theorem dX10_needsPause_0 : decode cX10_needsPause 0 = .ok (.iload_n 1, 1) := by decide +kernel
theorem dX10_needsPause_1 : decode cX10_needsPause 1 = .ok (.aload_n 0, 1) := by decide +kernel
theorem dX10_needsPause_2 : decode cX10_needsPause 2 = .ok (.getfield 40, 3) := by decide +kernel
theorem dX10_needsPause_5 : decode cX10_needsPause 5 = .ok (.invokestatic 89, 3) := by decide +kernel
theorem dX10_needsPause_8 : decode cX10_needsPause 8 = .ok (.iconst (-1), 1) := by decide +kernel
theorem dX10_needsPause_9 : decode cX10_needsPause 9 = .ok (.ixor, 1) := by decide +kernel
theorem dX10_needsPause_10 : decode cX10_needsPause 10 = .ok (.iand, 1) := by decide +kernel
theorem dX10_needsPause_11 : decode cX10_needsPause 11 = .ok (.ifCond .ne 7, 3) := by decide +kernel
theorem dX10_needsPause_14 : decode cX10_needsPause 14 = .ok (.iconst 1, 1) := by decide +kernel
theorem dX10_needsPause_15 : decode cX10_needsPause 15 = .ok (.goto 4, 3) := by decide +kernel
theorem dX10_needsPause_18 : decode cX10_needsPause 18 = .ok (.iconst 0, 1) := by decide +kernel
theorem dX10_needsPause_19 : decode cX10_needsPause 19 = .ok (.istore_n 3, 1) := by decide +kernel
theorem dX10_needsPause_20 : decode cX10_needsPause 20 = .ok (.iload_n 2, 1) := by decide +kernel
theorem dX10_needsPause_21 : decode cX10_needsPause 21 = .ok (.tableswitch 65 1 3 #[27, 29, 47], 27) := by decide +kernel
theorem dX10_needsPause_48 : decode cX10_needsPause 48 = .ok (.iload_n 3, 1) := by decide +kernel
theorem dX10_needsPause_49 : decode cX10_needsPause 49 = .ok (.ireturn, 1) := by decide +kernel
theorem dX10_needsPause_50 : decode cX10_needsPause 50 = .ok (.iload_n 3, 1) := by decide +kernel
theorem dX10_needsPause_51 : decode cX10_needsPause 51 = .ok (.ifCond .ne 11, 3) := by decide +kernel
theorem dX10_needsPause_54 : decode cX10_needsPause 54 = .ok (.iload_n 1, 1) := by decide +kernel
theorem dX10_needsPause_55 : decode cX10_needsPause 55 = .ok (.iload_n 1, 1) := by decide +kernel
theorem dX10_needsPause_56 : decode cX10_needsPause 56 = .ok (.iconst 1, 1) := by decide +kernel
theorem dX10_needsPause_57 : decode cX10_needsPause 57 = .ok (.ishl, 1) := by decide +kernel
theorem dX10_needsPause_58 : decode cX10_needsPause 58 = .ok (.iand, 1) := by decide +kernel
theorem dX10_needsPause_59 : decode cX10_needsPause 59 = .ok (.ifCond .eq 7, 3) := by decide +kernel
theorem dX10_needsPause_62 : decode cX10_needsPause 62 = .ok (.iconst 1, 1) := by decide +kernel
theorem dX10_needsPause_63 : decode cX10_needsPause 63 = .ok (.goto 4, 3) := by decide +kernel
theorem dX10_needsPause_66 : decode cX10_needsPause 66 = .ok (.iconst 0, 1) := by decide +kernel
theorem dX10_needsPause_67 : decode cX10_needsPause 67 = .ok (.ireturn, 1) := by decide +kernel
theorem dX10_needsPause_68 : decode cX10_needsPause 68 = .ok (.iload_n 1, 1) := by decide +kernel
theorem dX10_needsPause_69 : decode cX10_needsPause 69 = .ok (.iload_n 1, 1) := by decide +kernel
theorem dX10_needsPause_70 : decode cX10_needsPause 70 = .ok (.iconst 1, 1) := by decide +kernel
theorem dX10_needsPause_71 : decode cX10_needsPause 71 = .ok (.ishl, 1) := by decide +kernel
theorem dX10_needsPause_72 : decode cX10_needsPause 72 = .ok (.iand, 1) := by decide +kernel
theorem dX10_needsPause_73 : decode cX10_needsPause 73 = .ok (.iload_n 1, 1) := by decide +kernel
theorem dX10_needsPause_74 : decode cX10_needsPause 74 = .ok (.iconst 2, 1) := by decide +kernel
theorem dX10_needsPause_75 : decode cX10_needsPause 75 = .ok (.ishl, 1) := by decide +kernel
theorem dX10_needsPause_76 : decode cX10_needsPause 76 = .ok (.iand, 1) := by decide +kernel
theorem dX10_needsPause_77 : decode cX10_needsPause 77 = .ok (.ifCond .eq 7, 3) := by decide +kernel
theorem dX10_needsPause_80 : decode cX10_needsPause 80 = .ok (.iconst 1, 1) := by decide +kernel
theorem dX10_needsPause_81 : decode cX10_needsPause 81 = .ok (.goto 4, 3) := by decide +kernel
theorem dX10_needsPause_84 : decode cX10_needsPause 84 = .ok (.iconst 0, 1) := by decide +kernel
theorem dX10_needsPause_85 : decode cX10_needsPause 85 = .ok (.ireturn, 1) := by decide +kernel
theorem dX10_needsPause_86 : decode cX10_needsPause 86 = .ok (.iconst 0, 1) := by decide +kernel
theorem dX10_needsPause_87 : decode cX10_needsPause 87 = .ok (.ireturn, 1) := by decide +kernel
