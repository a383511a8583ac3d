theorem dX11_init_0 : decode cX11_init 0 = .ok (.aload_n 0, 1) := by decide +kernel
theorem dX11_init_1 : decode cX11_init 1 = .ok (.invokespecial 1, 3) := by decide +kernel
theorem dX11_init_4 : decode cX11_init 4 = .ok (.aload_n 0, 1) := by decide +kernel
theorem dX11_init_5 : decode cX11_init 5 = .ok (.new 7, 3) := by decide +kernel
theorem dX11_init_8 : decode cX11_init 8 = .ok (.dup, 1) := by decide +kernel
theorem dX11_init_9 : decode cX11_init 9 = .ok (.invokespecial 9, 3) := by decide +kernel
theorem dX11_init_12 : decode cX11_init 12 = .ok (.putfield 10, 3) := by decide +kernel
theorem dX11_init_15 : decode cX11_init 15 = .ok (.aload_n 0, 1) := by decide +kernel
theorem dX11_init_16 : decode cX11_init 16 = .ok (.new 16, 3) := by decide +kernel
theorem dX11_init_19 : decode cX11_init 19 = .ok (.dup, 1) := by decide +kernel
theorem dX11_init_20 : decode cX11_init 20 = .ok (.invokespecial 18, 3) := by decide +kernel
theorem dX11_init_23 : decode cX11_init 23 = .ok (.putfield 19, 3) := by decide +kernel
theorem dX11_init_26 : decode cX11_init 26 = .ok (.aload_n 0, 1) := by decide +kernel
theorem dX11_init_27 : decode cX11_init 27 = .ok (.new 23, 3) := by decide +kernel
theorem dX11_init_30 : decode cX11_init 30 = .ok (.dup, 1) := by decide +kernel
theorem dX11_init_31 : decode cX11_init 31 = .ok (.invokespecial 25, 3) := by decide +kernel
theorem dX11_init_34 : decode cX11_init 34 = .ok (.putfield 26, 3) := by decide +kernel
theorem dX11_init_37 : decode cX11_init 37 = .ok (.aload_n 0, 1) := by decide +kernel
theorem dX11_init_38 : decode cX11_init 38 = .ok (.new 30, 3) := by decide +kernel
theorem dX11_init_41 : decode cX11_init 41 = .ok (.dup, 1) := by decide +kernel
theorem dX11_init_42 : decode cX11_init 42 = .ok (.invokespecial 32, 3) := by decide +kernel
theorem dX11_init_45 : decode cX11_init 45 = .ok (.putfield 33, 3) := by decide +kernel
theorem dX11_init_48 : decode cX11_init 48 = .ok (.aload_n 0, 1) := by decide +kernel
theorem dX11_init_49 : decode cX11_init 49 = .ok (.new 37, 3) := by decide +kernel
theorem dX11_init_52 : decode cX11_init 52 = .ok (.dup, 1) := by decide +kernel
theorem dX11_init_53 : decode cX11_init 53 = .ok (.aload_n 0, 1) := by decide +kernel
theorem dX11_init_54 : decode cX11_init 54 = .ok (.getfield 19, 3) := by decide +kernel
theorem dX11_init_57 : decode cX11_init 57 = .ok (.aload_n 0, 1) := by decide +kernel
theorem dX11_init_58 : decode cX11_init 58 = .ok (.getfield 26, 3) := by decide +kernel
theorem dX11_init_61 : decode cX11_init 61 = .ok (.aload_n 0, 1) := by decide +kernel
theorem dX11_init_62 : decode cX11_init 62 = .ok (.getfield 33, 3) := by decide +kernel
theorem dX11_init_65 : decode cX11_init 65 = .ok (.invokespecial 39, 3) := by decide +kernel
theorem dX11_init_68 : decode cX11_init 68 = .ok (.putfield 42, 3) := by decide +kernel
theorem dX11_init_71 : decode cX11_init 71 = .ok (.aload_n 0, 1) := by decide +kernel
theorem dX11_init_72 : decode cX11_init 72 = .ok (.new 46, 3) := by decide +kernel
theorem dX11_init_75 : decode cX11_init 75 = .ok (.dup, 1) := by decide +kernel
theorem dX11_init_76 : decode cX11_init 76 = .ok (.aload_n 0, 1) := by decide +kernel
theorem dX11_init_77 : decode cX11_init 77 = .ok (.getfield 19, 3) := by decide +kernel
theorem dX11_init_80 : decode cX11_init 80 = .ok (.aload_n 0, 1) := by decide +kernel
theorem dX11_init_81 : decode cX11_init 81 = .ok (.getfield 42, 3) := by decide +kernel
theorem dX11_init_84 : decode cX11_init 84 = .ok (.invokespecial 48, 3) := by decide +kernel
theorem dX11_init_87 : decode cX11_init 87 = .ok (.putfield 51, 3) := by decide +kernel
theorem dX11_init_90 : decode cX11_init 90 = .ok (.aload_n 0, 1) := by decide +kernel
theorem dX11_init_91 : decode cX11_init 91 = .ok (.new 55, 3) := by decide +kernel
theorem dX11_init_94 : decode cX11_init 94 = .ok (.dup, 1) := by decide +kernel
theorem dX11_init_95 : decode cX11_init 95 = .ok (.aload_n 0, 1) := by decide +kernel
theorem dX11_init_96 : decode cX11_init 96 = .ok (.getfield 19, 3) := by decide +kernel
theorem dX11_init_99 : decode cX11_init 99 = .ok (.aload_n 0, 1) := by decide +kernel
theorem dX11_init_100 : decode cX11_init 100 = .ok (.getfield 33, 3) := by decide +kernel
theorem dX11_init_103 : decode cX11_init 103 = .ok (.aload_n 0, 1) := by decide +kernel
theorem dX11_init_104 : decode cX11_init 104 = .ok (.getfield 42, 3) := by decide +kernel
theorem dX11_init_107 : decode cX11_init 107 = .ok (.invokespecial 57, 3) := by decide +kernel
theorem dX11_init_110 : decode cX11_init 110 = .ok (.putfield 60, 3) := by decide +kernel
theorem dX11_init_113 : decode cX11_init 113 = .ok (.aload_n 0, 1) := by decide +kernel
theorem dX11_init_114 : decode cX11_init 114 = .ok (.new 64, 3) := by decide +kernel
theorem dX11_init_117 : decode cX11_init 117 = .ok (.dup, 1) := by decide +kernel
theorem dX11_init_118 : decode cX11_init 118 = .ok (.invokespecial 66, 3) := by decide +kernel
theorem dX11_init_121 : decode cX11_init 121 = .ok (.putfield 67, 3) := by decide +kernel
theorem dX11_init_124 : decode cX11_init 124 = .ok (.aload_n 0, 1) := by decide +kernel
theorem dX11_init_125 : decode cX11_init 125 = .ok (.new 71, 3) := by decide +kernel
theorem dX11_init_128 : decode cX11_init 128 = .ok (.dup, 1) := by decide +kernel
theorem dX11_init_129 : decode cX11_init 129 = .ok (.aload_n 0, 1) := by decide +kernel
theorem dX11_init_130 : decode cX11_init 130 = .ok (.getfield 10, 3) := by decide +kernel
theorem dX11_init_133 : decode cX11_init 133 = .ok (.invokespecial 73, 3) := by decide +kernel
theorem dX11_init_136 : decode cX11_init 136 = .ok (.putfield 76, 3) := by decide +kernel
theorem dX11_init_139 : decode cX11_init 139 = .ok (.aload_n 0, 1) := by decide +kernel
theorem dX11_init_140 : decode cX11_init 140 = .ok (.new 80, 3) := by decide +kernel
theorem dX11_init_143 : decode cX11_init 143 = .ok (.dup, 1) := by decide +kernel
theorem dX11_init_144 : decode cX11_init 144 = .ok (.aload_n 0, 1) := by decide +kernel
theorem dX11_init_145 : decode cX11_init 145 = .ok (.getfield 10, 3) := by decide +kernel
theorem dX11_init_148 : decode cX11_init 148 = .ok (.invokespecial 82, 3) := by decide +kernel
theorem dX11_init_151 : decode cX11_init 151 = .ok (.putfield 83, 3) := by decide +kernel
theorem dX11_init_154 : decode cX11_init 154 = .ok (.aload_n 0, 1) := by decide +kernel
theorem dX11_init_155 : decode cX11_init 155 = .ok (.new 30, 3) := by decide +kernel
theorem dX11_init_158 : decode cX11_init 158 = .ok (.dup, 1) := by decide +kernel
theorem dX11_init_159 : decode cX11_init 159 = .ok (.invokespecial 32, 3) := by decide +kernel
theorem dX11_init_162 : decode cX11_init 162 = .ok (.putfield 87, 3) := by decide +kernel
theorem dX11_init_165 : decode cX11_init 165 = .ok (.aload_n 0, 1) := by decide +kernel
theorem dX11_init_166 : decode cX11_init 166 = .ok (.new 16, 3) := by decide +kernel
theorem dX11_init_169 : decode cX11_init 169 = .ok (.dup, 1) := by decide +kernel
theorem dX11_init_170 : decode cX11_init 170 = .ok (.invokespecial 18, 3) := by decide +kernel
theorem dX11_init_173 : decode cX11_init 173 = .ok (.putfield 90, 3) := by decide +kernel
theorem dX11_init_176 : decode cX11_init 176 = .ok (.aload_n 0, 1) := by decide +kernel
theorem dX11_init_177 : decode cX11_init 177 = .ok (.new 23, 3) := by decide +kernel
theorem dX11_init_180 : decode cX11_init 180 = .ok (.dup, 1) := by decide +kernel
theorem dX11_init_181 : decode cX11_init 181 = .ok (.invokespecial 25, 3) := by decide +kernel
theorem dX11_init_184 : decode cX11_init 184 = .ok (.putfield 93, 3) := by decide +kernel
theorem dX11_init_187 : decode cX11_init 187 = .ok (.aload_n 0, 1) := by decide +kernel
theorem dX11_init_188 : decode cX11_init 188 = .ok (.new 30, 3) := by decide +kernel
theorem dX11_init_191 : decode cX11_init 191 = .ok (.dup, 1) := by decide +kernel
theorem dX11_init_192 : decode cX11_init 192 = .ok (.invokespecial 32, 3) := by decide +kernel
theorem dX11_init_195 : decode cX11_init 195 = .ok (.putfield 96, 3) := by decide +kernel
theorem dX11_init_198 : decode cX11_init 198 = .ok (.aload_n 0, 1) := by decide +kernel
theorem dX11_init_199 : decode cX11_init 199 = .ok (.iconst 0, 1) := by decide +kernel
theorem dX11_init_200 : decode cX11_init 200 = .ok (.putfield 99, 3) := by decide +kernel
theorem dX11_init_203 : decode cX11_init 203 = .ok (.aload_n 0, 1) := by decide +kernel
theorem dX11_init_204 : decode cX11_init 204 = .ok (.iconst (-1), 1) := by decide +kernel
theorem dX11_init_205 : decode cX11_init 205 = .ok (.putfield 103, 3) := by decide +kernel
theorem dX11_init_208 : decode cX11_init 208 = .ok (.return_, 1) := by decide +kernel
theorem dX11_feed_0 : decode cX11_feed 0 = .ok (.aload_n 0, 1) := by decide +kernel
theorem dX11_feed_1 : decode cX11_feed 1 = .ok (.getfield 10, 3) := by decide +kernel
theorem dX11_feed_4 : decode cX11_feed 4 = .ok (.bipush 20, 2) := by decide +kernel
theorem dX11_feed_6 : decode cX11_feed 6 = .ok (.invokevirtual 107, 3) := by decide +kernel
theorem dX11_feed_9 : decode cX11_feed 9 = .ok (.ifCond .ne 5, 3) := by decide +kernel
theorem dX11_feed_12 : decode cX11_feed 12 = .ok (.iconst (-1), 1) := by decide +kernel
theorem dX11_feed_13 : decode cX11_feed 13 = .ok (.ireturn, 1) := by decide +kernel
theorem dX11_feed_14 : decode cX11_feed 14 = .ok (.aload_n 0, 1) := by decide +kernel
theorem dX11_feed_15 : decode cX11_feed 15 = .ok (.getfield 10, 3) := by decide +kernel
theorem dX11_feed_18 : decode cX11_feed 18 = .ok (.iload_n 1, 1) := by decide +kernel
theorem dX11_feed_19 : decode cX11_feed 19 = .ok (.invokevirtual 111, 3) := by decide +kernel
theorem dX11_feed_22 : decode cX11_feed 22 = .ok (.aload_n 0, 1) := by decide +kernel
theorem dX11_feed_23 : decode cX11_feed 23 = .ok (.getfield 10, 3) := by decide +kernel
theorem dX11_feed_26 : decode cX11_feed 26 = .ok (.iload_n 2, 1) := by decide +kernel
theorem dX11_feed_27 : decode cX11_feed 27 = .ok (.invokevirtual 111, 3) := by decide +kernel
theorem dX11_feed_30 : decode cX11_feed 30 = .ok (.aload_n 0, 1) := by decide +kernel
theorem dX11_feed_31 : decode cX11_feed 31 = .ok (.getfield 10, 3) := by decide +kernel
theorem dX11_feed_34 : decode cX11_feed 34 = .ok (.iload_n 3, 1) := by decide +kernel
theorem dX11_feed_35 : decode cX11_feed 35 = .ok (.invokevirtual 111, 3) := by decide +kernel
theorem dX11_feed_38 : decode cX11_feed 38 = .ok (.aload_n 0, 1) := by decide +kernel
theorem dX11_feed_39 : decode cX11_feed 39 = .ok (.getfield 10, 3) := by decide +kernel
theorem dX11_feed_42 : decode cX11_feed 42 = .ok (.iload 4, 2) := by decide +kernel
theorem dX11_feed_44 : decode cX11_feed 44 = .ok (.invokevirtual 111, 3) := by decide +kernel
theorem dX11_feed_47 : decode cX11_feed 47 = .ok (.aload_n 0, 1) := by decide +kernel
theorem dX11_feed_48 : decode cX11_feed 48 = .ok (.getfield 10, 3) := by decide +kernel
theorem dX11_feed_51 : decode cX11_feed 51 = .ok (.iload 5, 2) := by decide +kernel
theorem dX11_feed_53 : decode cX11_feed 53 = .ok (.invokevirtual 111, 3) := by decide +kernel
theorem dX11_feed_56 : decode cX11_feed 56 = .ok (.aload_n 0, 1) := by decide +kernel
theorem dX11_feed_57 : decode cX11_feed 57 = .ok (.getfield 10, 3) := by decide +kernel
theorem dX11_feed_60 : decode cX11_feed 60 = .ok (.getfield 115, 3) := by decide +kernel
theorem dX11_feed_63 : decode cX11_feed 63 = .ok (.ireturn, 1) := by decide +kernel
theorem dX11_end_0 : decode cX11_end 0 = .ok (.iload_n 1, 1) := by decide +kernel
theorem dX11_end_1 : decode cX11_end 1 = .ok (.ifCond .lt 14, 3) := by decide +kernel
theorem dX11_end_4 : decode cX11_end 4 = .ok (.iload_n 1, 1) := by decide +kernel
theorem dX11_end_5 : decode cX11_end 5 = .ok (.aload_n 0, 1) := by decide +kernel
theorem dX11_end_6 : decode cX11_end 6 = .ok (.getfield 10, 3) := by decide +kernel
theorem dX11_end_9 : decode cX11_end 9 = .ok (.getfield 115, 3) := by decide +kernel
theorem dX11_end_12 : decode cX11_end 12 = .ok (.if_icmp .le 5, 3) := by decide +kernel
theorem dX11_end_15 : decode cX11_end 15 = .ok (.iconst 0, 1) := by decide +kernel
theorem dX11_end_16 : decode cX11_end 16 = .ok (.ireturn, 1) := by decide +kernel
theorem dX11_end_17 : decode cX11_end 17 = .ok (.aload_n 0, 1) := by decide +kernel
theorem dX11_end_18 : decode cX11_end 18 = .ok (.getfield 10, 3) := by decide +kernel
theorem dX11_end_21 : decode cX11_end 21 = .ok (.iload_n 1, 1) := by decide +kernel
theorem dX11_end_22 : decode cX11_end 22 = .ok (.putfield 115, 3) := by decide +kernel
theorem dX11_end_25 : decode cX11_end 25 = .ok (.iconst 1, 1) := by decide +kernel
theorem dX11_end_26 : decode cX11_end 26 = .ok (.ireturn, 1) := by decide +kernel
theorem dX11_shop_0 : decode cX11_shop 0 = .ok (.aload_n 0, 1) := by decide +kernel
theorem dX11_shop_1 : decode cX11_shop 1 = .ok (.getfield 76, 3) := by decide +kernel
theorem dX11_shop_4 : decode cX11_shop 4 = .ok (.aload_n 0, 1) := by decide +kernel
theorem dX11_shop_5 : decode cX11_shop 5 = .ok (.getfield 19, 3) := by decide +kernel
theorem dX11_shop_8 : decode cX11_shop 8 = .ok (.invokevirtual 118, 3) := by decide +kernel
theorem dX11_shop_11 : decode cX11_shop 11 = .ok (.aload_n 0, 1) := by decide +kernel
theorem dX11_shop_12 : decode cX11_shop 12 = .ok (.getfield 76, 3) := by decide +kernel
theorem dX11_shop_15 : decode cX11_shop 15 = .ok (.invokevirtual 122, 3) := by decide +kernel
theorem dX11_shop_18 : decode cX11_shop 18 = .ok (.istore_n 1, 1) := by decide +kernel
theorem dX11_shop_19 : decode cX11_shop 19 = .ok (.aload_n 0, 1) := by decide +kernel
theorem dX11_shop_20 : decode cX11_shop 20 = .ok (.iload_n 1, 1) := by decide +kernel
theorem dX11_shop_21 : decode cX11_shop 21 = .ok (.invokevirtual 126, 3) := by decide +kernel
theorem dX11_shop_24 : decode cX11_shop 24 = .ok (.iload_n 1, 1) := by decide +kernel
theorem dX11_shop_25 : decode cX11_shop 25 = .ok (.ifCond .ne 13, 3) := by decide +kernel
theorem dX11_shop_28 : decode cX11_shop 28 = .ok (.new 130, 3) := by decide +kernel
theorem dX11_shop_31 : decode cX11_shop 31 = .ok (.dup, 1) := by decide +kernel
theorem dX11_shop_32 : decode cX11_shop 32 = .ok (.ldc 132, 2) := by decide +kernel
theorem dX11_shop_34 : decode cX11_shop 34 = .ok (.invokespecial 134, 3) := by decide +kernel
theorem dX11_shop_37 : decode cX11_shop 37 = .ok (.athrow, 1) := by decide +kernel
theorem dX11_shop_38 : decode cX11_shop 38 = .ok (.aload_n 0, 1) := by decide +kernel
theorem dX11_shop_39 : decode cX11_shop 39 = .ok (.getfield 19, 3) := by decide +kernel
theorem dX11_shop_42 : decode cX11_shop 42 = .ok (.getfield 137, 3) := by decide +kernel
theorem dX11_shop_45 : decode cX11_shop 45 = .ok (.bipush 12, 2) := by decide +kernel
theorem dX11_shop_47 : decode cX11_shop 47 = .ok (.if_icmp .lt 13, 3) := by decide +kernel
theorem dX11_shop_50 : decode cX11_shop 50 = .ok (.new 140, 3) := by decide +kernel
theorem dX11_shop_53 : decode cX11_shop 53 = .ok (.dup, 1) := by decide +kernel
theorem dX11_shop_54 : decode cX11_shop 54 = .ok (.ldc 142, 2) := by decide +kernel
theorem dX11_shop_56 : decode cX11_shop 56 = .ok (.invokespecial 144, 3) := by decide +kernel
theorem dX11_shop_59 : decode cX11_shop 59 = .ok (.athrow, 1) := by decide +kernel
theorem dX11_shop_60 : decode cX11_shop 60 = .ok (.aload_n 0, 1) := by decide +kernel
theorem dX11_shop_61 : decode cX11_shop 61 = .ok (.getfield 19, 3) := by decide +kernel
theorem dX11_shop_64 : decode cX11_shop 64 = .ok (.aload_n 0, 1) := by decide +kernel
theorem dX11_shop_65 : decode cX11_shop 65 = .ok (.getfield 76, 3) := by decide +kernel
theorem dX11_shop_68 : decode cX11_shop 68 = .ok (.getfield 145, 3) := by decide +kernel
theorem dX11_shop_71 : decode cX11_shop 71 = .ok (.invokevirtual 148, 3) := by decide +kernel
theorem dX11_shop_74 : decode cX11_shop 74 = .ok (.aload_n 0, 1) := by decide +kernel
theorem dX11_shop_75 : decode cX11_shop 75 = .ok (.getfield 19, 3) := by decide +kernel
theorem dX11_shop_78 : decode cX11_shop 78 = .ok (.dup, 1) := by decide +kernel
theorem dX11_shop_79 : decode cX11_shop 79 = .ok (.getfield 137, 3) := by decide +kernel
theorem dX11_shop_82 : decode cX11_shop 82 = .ok (.iconst 1, 1) := by decide +kernel
theorem dX11_shop_83 : decode cX11_shop 83 = .ok (.iadd, 1) := by decide +kernel
theorem dX11_shop_84 : decode cX11_shop 84 = .ok (.putfield 137, 3) := by decide +kernel
theorem dX11_shop_87 : decode cX11_shop 87 = .ok (.aload_n 0, 1) := by decide +kernel
theorem dX11_shop_88 : decode cX11_shop 88 = .ok (.getfield 76, 3) := by decide +kernel
theorem dX11_shop_91 : decode cX11_shop 91 = .ok (.getfield 151, 3) := by decide +kernel
theorem dX11_shop_94 : decode cX11_shop 94 = .ok (.ifCond .eq 10, 3) := by decide +kernel
theorem dX11_shop_97 : decode cX11_shop 97 = .ok (.aload_n 0, 1) := by decide +kernel
theorem dX11_shop_98 : decode cX11_shop 98 = .ok (.getfield 33, 3) := by decide +kernel
theorem dX11_shop_101 : decode cX11_shop 101 = .ok (.invokevirtual 154, 3) := by decide +kernel
theorem dX11_shop_104 : decode cX11_shop 104 = .ok (.aload_n 0, 1) := by decide +kernel
theorem dX11_shop_105 : decode cX11_shop 105 = .ok (.invokevirtual 157, 3) := by decide +kernel
theorem dX11_shop_108 : decode cX11_shop 108 = .ok (.aload_n 0, 1) := by decide +kernel
theorem dX11_shop_109 : decode cX11_shop 109 = .ok (.getfield 19, 3) := by decide +kernel
theorem dX11_shop_112 : decode cX11_shop 112 = .ok (.getfield 137, 3) := by decide +kernel
theorem dX11_shop_115 : decode cX11_shop 115 = .ok (.ireturn, 1) := by decide +kernel
theorem dX11_law_0 : decode cX11_law 0 = .ok (.aload_n 0, 1) := by decide +kernel
theorem dX11_law_1 : decode cX11_law 1 = .ok (.getfield 83, 3) := by decide +kernel
theorem dX11_law_4 : decode cX11_law 4 = .ok (.getfield 160, 3) := by decide +kernel
theorem dX11_law_7 : decode cX11_law 7 = .ok (.invokevirtual 162, 3) := by decide +kernel
theorem dX11_law_10 : decode cX11_law 10 = .ok (.aload_n 0, 1) := by decide +kernel
theorem dX11_law_11 : decode cX11_law 11 = .ok (.getfield 83, 3) := by decide +kernel
theorem dX11_law_14 : decode cX11_law 14 = .ok (.invokevirtual 165, 3) := by decide +kernel
theorem dX11_law_17 : decode cX11_law 17 = .ok (.istore_n 1, 1) := by decide +kernel
theorem dX11_law_18 : decode cX11_law 18 = .ok (.aload_n 0, 1) := by decide +kernel
theorem dX11_law_19 : decode cX11_law 19 = .ok (.iload_n 1, 1) := by decide +kernel
theorem dX11_law_20 : decode cX11_law 20 = .ok (.invokevirtual 126, 3) := by decide +kernel
theorem dX11_law_23 : decode cX11_law 23 = .ok (.iload_n 1, 1) := by decide +kernel
theorem dX11_law_24 : decode cX11_law 24 = .ok (.ifCond .ne 13, 3) := by decide +kernel
theorem dX11_law_27 : decode cX11_law 27 = .ok (.new 130, 3) := by decide +kernel
theorem dX11_law_30 : decode cX11_law 30 = .ok (.dup, 1) := by decide +kernel
theorem dX11_law_31 : decode cX11_law 31 = .ok (.ldc 166, 2) := by decide +kernel
theorem dX11_law_33 : decode cX11_law 33 = .ok (.invokespecial 134, 3) := by decide +kernel
theorem dX11_law_36 : decode cX11_law 36 = .ok (.athrow, 1) := by decide +kernel
theorem dX11_law_37 : decode cX11_law 37 = .ok (.aload_n 0, 1) := by decide +kernel
theorem dX11_law_38 : decode cX11_law 38 = .ok (.getfield 26, 3) := by decide +kernel
theorem dX11_law_41 : decode cX11_law 41 = .ok (.aload_n 0, 1) := by decide +kernel
theorem dX11_law_42 : decode cX11_law 42 = .ok (.getfield 83, 3) := by decide +kernel
theorem dX11_law_45 : decode cX11_law 45 = .ok (.getfield 160, 3) := by decide +kernel
theorem dX11_law_48 : decode cX11_law 48 = .ok (.invokevirtual 168, 3) := by decide +kernel
theorem dX11_law_51 : decode cX11_law 51 = .ok (.aload_n 0, 1) := by decide +kernel
theorem dX11_law_52 : decode cX11_law 52 = .ok (.invokevirtual 157, 3) := by decide +kernel
theorem dX11_law_55 : decode cX11_law 55 = .ok (.aload_n 0, 1) := by decide +kernel
theorem dX11_law_56 : decode cX11_law 56 = .ok (.getfield 26, 3) := by decide +kernel
theorem dX11_law_59 : decode cX11_law 59 = .ok (.getfield 171, 3) := by decide +kernel
theorem dX11_law_62 : decode cX11_law 62 = .ok (.ireturn, 1) := by decide +kernel
theorem dX11_fault_0 : decode cX11_fault 0 = .ok (.aload_n 0, 1) := by decide +kernel
theorem dX11_fault_1 : decode cX11_fault 1 = .ok (.getfield 103, 3) := by decide +kernel
theorem dX11_fault_4 : decode cX11_fault 4 = .ok (.ireturn, 1) := by decide +kernel
theorem dX11_useUp_0 : decode cX11_useUp 0 = .ok (.aload_n 0, 1) := by decide +kernel
theorem dX11_useUp_1 : decode cX11_useUp 1 = .ok (.iload_n 1, 1) := by decide +kernel
theorem dX11_useUp_2 : decode cX11_useUp 2 = .ok (.ifCond .eq 7, 3) := by decide +kernel
theorem dX11_useUp_5 : decode cX11_useUp 5 = .ok (.iconst (-1), 1) := by decide +kernel
theorem dX11_useUp_6 : decode cX11_useUp 6 = .ok (.goto 10, 3) := by decide +kernel
theorem dX11_useUp_9 : decode cX11_useUp 9 = .ok (.aload_n 0, 1) := by decide +kernel
theorem dX11_useUp_10 : decode cX11_useUp 10 = .ok (.getfield 10, 3) := by decide +kernel
theorem dX11_useUp_13 : decode cX11_useUp 13 = .ok (.getfield 174, 3) := by decide +kernel
theorem dX11_useUp_16 : decode cX11_useUp 16 = .ok (.putfield 103, 3) := by decide +kernel
theorem dX11_useUp_19 : decode cX11_useUp 19 = .ok (.aload_n 0, 1) := by decide +kernel
theorem dX11_useUp_20 : decode cX11_useUp 20 = .ok (.getfield 10, 3) := by decide +kernel
theorem dX11_useUp_23 : decode cX11_useUp 23 = .ok (.iconst 0, 1) := by decide +kernel
theorem dX11_useUp_24 : decode cX11_useUp 24 = .ok (.putfield 115, 3) := by decide +kernel
theorem dX11_useUp_27 : decode cX11_useUp 27 = .ok (.return_, 1) := by decide +kernel
theorem dX11_forgetActs_0 : decode cX11_forgetActs 0 = .ok (.aload_n 0, 1) := by decide +kernel
theorem dX11_forgetActs_1 : decode cX11_forgetActs 1 = .ok (.getfield 67, 3) := by decide +kernel
theorem dX11_forgetActs_4 : decode cX11_forgetActs 4 = .ok (.invokevirtual 176, 3) := by decide +kernel
theorem dX11_forgetActs_7 : decode cX11_forgetActs 7 = .ok (.aload_n 0, 1) := by decide +kernel
theorem dX11_forgetActs_8 : decode cX11_forgetActs 8 = .ok (.getfield 42, 3) := by decide +kernel
theorem dX11_forgetActs_11 : decode cX11_forgetActs 11 = .ok (.invokevirtual 179, 3) := by decide +kernel
theorem dX11_forgetActs_14 : decode cX11_forgetActs 14 = .ok (.return_, 1) := by decide +kernel
theorem dX11_sign_0 : decode cX11_sign 0 = .ok (.aload_n 0, 1) := by decide +kernel
theorem dX11_sign_1 : decode cX11_sign 1 = .ok (.iload_n 1, 1) := by decide +kernel
theorem dX11_sign_2 : decode cX11_sign 2 = .ok (.invokevirtual 182, 3) := by decide +kernel
theorem dX11_sign_5 : decode cX11_sign 5 = .ok (.iload_n 2, 1) := by decide +kernel
theorem dX11_sign_6 : decode cX11_sign 6 = .ok (.tableswitch 55 0 2 #[26, 36, 46], 26) := by decide +kernel
theorem dX11_sign_32 : decode cX11_sign 32 = .ok (.aload_n 0, 1) := by decide +kernel
theorem dX11_sign_33 : decode cX11_sign 33 = .ok (.getfield 19, 3) := by decide +kernel
theorem dX11_sign_36 : decode cX11_sign 36 = .ok (.getfield 185, 3) := by decide +kernel
theorem dX11_sign_39 : decode cX11_sign 39 = .ok (.iload_n 1, 1) := by decide +kernel
theorem dX11_sign_40 : decode cX11_sign 40 = .ok (.iaload, 1) := by decide +kernel
theorem dX11_sign_41 : decode cX11_sign 41 = .ok (.ireturn, 1) := by decide +kernel
theorem dX11_sign_42 : decode cX11_sign 42 = .ok (.aload_n 0, 1) := by decide +kernel
theorem dX11_sign_43 : decode cX11_sign 43 = .ok (.getfield 19, 3) := by decide +kernel
theorem dX11_sign_46 : decode cX11_sign 46 = .ok (.getfield 189, 3) := by decide +kernel
theorem dX11_sign_49 : decode cX11_sign 49 = .ok (.iload_n 1, 1) := by decide +kernel
theorem dX11_sign_50 : decode cX11_sign 50 = .ok (.iaload, 1) := by decide +kernel
theorem dX11_sign_51 : decode cX11_sign 51 = .ok (.ireturn, 1) := by decide +kernel
theorem dX11_sign_52 : decode cX11_sign 52 = .ok (.aload_n 0, 1) := by decide +kernel
theorem dX11_sign_53 : decode cX11_sign 53 = .ok (.getfield 19, 3) := by decide +kernel
theorem dX11_sign_56 : decode cX11_sign 56 = .ok (.iload_n 1, 1) := by decide +kernel
theorem dX11_sign_57 : decode cX11_sign 57 = .ok (.invokevirtual 192, 3) := by decide +kernel
theorem dX11_sign_60 : decode cX11_sign 60 = .ok (.ireturn, 1) := by decide +kernel
theorem dX11_sign_61 : decode cX11_sign 61 = .ok (.new 196, 3) := by decide +kernel
theorem dX11_sign_64 : decode cX11_sign 64 = .ok (.dup, 1) := by decide +kernel
theorem dX11_sign_65 : decode cX11_sign 65 = .ok (.ldc 198, 2) := by decide +kernel
theorem dX11_sign_67 : decode cX11_sign 67 = .ok (.invokespecial 200, 3) := by decide +kernel
theorem dX11_sign_70 : decode cX11_sign 70 = .ok (.athrow, 1) := by decide +kernel
theorem dX11_side_0 : decode cX11_side 0 = .ok (.aload_n 0, 1) := by decide +kernel
theorem dX11_side_1 : decode cX11_side 1 = .ok (.iload_n 1, 1) := by decide +kernel
theorem dX11_side_2 : decode cX11_side 2 = .ok (.invokevirtual 182, 3) := by decide +kernel
theorem dX11_side_5 : decode cX11_side 5 = .ok (.aload_n 0, 1) := by decide +kernel
theorem dX11_side_6 : decode cX11_side 6 = .ok (.iload_n 2, 1) := by decide +kernel
theorem dX11_side_7 : decode cX11_side 7 = .ok (.invokevirtual 201, 3) := by decide +kernel
theorem dX11_side_10 : decode cX11_side 10 = .ok (.iload_n 3, 1) := by decide +kernel
theorem dX11_side_11 : decode cX11_side 11 = .ok (.ifCond .eq 15, 3) := by decide +kernel
theorem dX11_side_14 : decode cX11_side 14 = .ok (.aload_n 0, 1) := by decide +kernel
theorem dX11_side_15 : decode cX11_side 15 = .ok (.getfield 19, 3) := by decide +kernel
theorem dX11_side_18 : decode cX11_side 18 = .ok (.iload_n 1, 1) := by decide +kernel
theorem dX11_side_19 : decode cX11_side 19 = .ok (.iload_n 2, 1) := by decide +kernel
theorem dX11_side_20 : decode cX11_side 20 = .ok (.invokevirtual 204, 3) := by decide +kernel
theorem dX11_side_23 : decode cX11_side 23 = .ok (.goto 12, 3) := by decide +kernel
theorem dX11_side_26 : decode cX11_side 26 = .ok (.aload_n 0, 1) := by decide +kernel
theorem dX11_side_27 : decode cX11_side 27 = .ok (.getfield 19, 3) := by decide +kernel
theorem dX11_side_30 : decode cX11_side 30 = .ok (.iload_n 1, 1) := by decide +kernel
theorem dX11_side_31 : decode cX11_side 31 = .ok (.iload_n 2, 1) := by decide +kernel
theorem dX11_side_32 : decode cX11_side 32 = .ok (.invokevirtual 208, 3) := by decide +kernel
theorem dX11_side_35 : decode cX11_side 35 = .ok (.ireturn, 1) := by decide +kernel
theorem dX11_letter_0 : decode cX11_letter 0 = .ok (.aload_n 0, 1) := by decide +kernel
theorem dX11_letter_1 : decode cX11_letter 1 = .ok (.iload_n 1, 1) := by decide +kernel
theorem dX11_letter_2 : decode cX11_letter 2 = .ok (.invokevirtual 211, 3) := by decide +kernel
theorem dX11_letter_5 : decode cX11_letter 5 = .ok (.iload_n 2, 1) := by decide +kernel
theorem dX11_letter_6 : decode cX11_letter 6 = .ok (.tableswitch 82 0 4 #[34, 44, 54, 63, 72], 34) := by decide +kernel
theorem dX11_letter_40 : decode cX11_letter 40 = .ok (.aload_n 0, 1) := by decide +kernel
theorem dX11_letter_41 : decode cX11_letter 41 = .ok (.getfield 19, 3) := by decide +kernel
theorem dX11_letter_44 : decode cX11_letter 44 = .ok (.getfield 214, 3) := by decide +kernel
theorem dX11_letter_47 : decode cX11_letter 47 = .ok (.iload_n 1, 1) := by decide +kernel
theorem dX11_letter_48 : decode cX11_letter 48 = .ok (.iaload, 1) := by decide +kernel
theorem dX11_letter_49 : decode cX11_letter 49 = .ok (.ireturn, 1) := by decide +kernel
theorem dX11_letter_50 : decode cX11_letter 50 = .ok (.aload_n 0, 1) := by decide +kernel
theorem dX11_letter_51 : decode cX11_letter 51 = .ok (.getfield 33, 3) := by decide +kernel
theorem dX11_letter_54 : decode cX11_letter 54 = .ok (.getfield 217, 3) := by decide +kernel
theorem dX11_letter_57 : decode cX11_letter 57 = .ok (.iload_n 1, 1) := by decide +kernel
theorem dX11_letter_58 : decode cX11_letter 58 = .ok (.iaload, 1) := by decide +kernel
theorem dX11_letter_59 : decode cX11_letter 59 = .ok (.ireturn, 1) := by decide +kernel
theorem dX11_letter_60 : decode cX11_letter 60 = .ok (.aload_n 0, 1) := by decide +kernel
theorem dX11_letter_61 : decode cX11_letter 61 = .ok (.getfield 42, 3) := by decide +kernel
theorem dX11_letter_64 : decode cX11_letter 64 = .ok (.iload_n 1, 1) := by decide +kernel
theorem dX11_letter_65 : decode cX11_letter 65 = .ok (.invokevirtual 220, 3) := by decide +kernel
theorem dX11_letter_68 : decode cX11_letter 68 = .ok (.ireturn, 1) := by decide +kernel
theorem dX11_letter_69 : decode cX11_letter 69 = .ok (.aload_n 0, 1) := by decide +kernel
theorem dX11_letter_70 : decode cX11_letter 70 = .ok (.getfield 42, 3) := by decide +kernel
theorem dX11_letter_73 : decode cX11_letter 73 = .ok (.iload_n 1, 1) := by decide +kernel
theorem dX11_letter_74 : decode cX11_letter 74 = .ok (.invokevirtual 223, 3) := by decide +kernel
theorem dX11_letter_77 : decode cX11_letter 77 = .ok (.ireturn, 1) := by decide +kernel
theorem dX11_letter_78 : decode cX11_letter 78 = .ok (.aload_n 0, 1) := by decide +kernel
theorem dX11_letter_79 : decode cX11_letter 79 = .ok (.getfield 33, 3) := by decide +kernel
theorem dX11_letter_82 : decode cX11_letter 82 = .ok (.getfield 226, 3) := by decide +kernel
theorem dX11_letter_85 : decode cX11_letter 85 = .ok (.iload_n 1, 1) := by decide +kernel
theorem dX11_letter_86 : decode cX11_letter 86 = .ok (.iaload, 1) := by decide +kernel
theorem dX11_letter_87 : decode cX11_letter 87 = .ok (.ireturn, 1) := by decide +kernel
theorem dX11_letter_88 : decode cX11_letter 88 = .ok (.new 196, 3) := by decide +kernel
theorem dX11_letter_91 : decode cX11_letter 91 = .ok (.dup, 1) := by decide +kernel
theorem dX11_letter_92 : decode cX11_letter 92 = .ok (.ldc 229, 2) := by decide +kernel
theorem dX11_letter_94 : decode cX11_letter 94 = .ok (.invokespecial 200, 3) := by decide +kernel
theorem dX11_letter_97 : decode cX11_letter 97 = .ok (.athrow, 1) := by decide +kernel
theorem dX11_gap_0 : decode cX11_gap 0 = .ok (.aload_n 0, 1) := by decide +kernel
theorem dX11_gap_1 : decode cX11_gap 1 = .ok (.iload_n 1, 1) := by decide +kernel
theorem dX11_gap_2 : decode cX11_gap 2 = .ok (.invokevirtual 231, 3) := by decide +kernel
theorem dX11_gap_5 : decode cX11_gap 5 = .ok (.aload_n 0, 1) := by decide +kernel
theorem dX11_gap_6 : decode cX11_gap 6 = .ok (.getfield 33, 3) := by decide +kernel
theorem dX11_gap_9 : decode cX11_gap 9 = .ok (.getfield 234, 3) := by decide +kernel
theorem dX11_gap_12 : decode cX11_gap 12 = .ok (.iload_n 1, 1) := by decide +kernel
theorem dX11_gap_13 : decode cX11_gap 13 = .ok (.iaload, 1) := by decide +kernel
theorem dX11_gap_14 : decode cX11_gap 14 = .ok (.istore_n 3, 1) := by decide +kernel
theorem dX11_gap_15 : decode cX11_gap 15 = .ok (.iload_n 2, 1) := by decide +kernel
theorem dX11_gap_16 : decode cX11_gap 16 = .ok (.tableswitch 57 0 2 #[28, 30, 40], 28) := by decide +kernel
theorem dX11_gap_44 : decode cX11_gap 44 = .ok (.iload_n 3, 1) := by decide +kernel
theorem dX11_gap_45 : decode cX11_gap 45 = .ok (.ireturn, 1) := by decide +kernel
theorem dX11_gap_46 : decode cX11_gap 46 = .ok (.aload_n 0, 1) := by decide +kernel
theorem dX11_gap_47 : decode cX11_gap 47 = .ok (.getfield 42, 3) := by decide +kernel
theorem dX11_gap_50 : decode cX11_gap 50 = .ok (.iload_n 1, 1) := by decide +kernel
theorem dX11_gap_51 : decode cX11_gap 51 = .ok (.iload_n 3, 1) := by decide +kernel
theorem dX11_gap_52 : decode cX11_gap 52 = .ok (.invokevirtual 237, 3) := by decide +kernel
theorem dX11_gap_55 : decode cX11_gap 55 = .ok (.ireturn, 1) := by decide +kernel
theorem dX11_gap_56 : decode cX11_gap 56 = .ok (.aload_n 0, 1) := by decide +kernel
theorem dX11_gap_57 : decode cX11_gap 57 = .ok (.getfield 42, 3) := by decide +kernel
theorem dX11_gap_60 : decode cX11_gap 60 = .ok (.iload_n 1, 1) := by decide +kernel
theorem dX11_gap_61 : decode cX11_gap 61 = .ok (.iload_n 3, 1) := by decide +kernel
theorem dX11_gap_62 : decode cX11_gap 62 = .ok (.aload_n 0, 1) := by decide +kernel
theorem dX11_gap_63 : decode cX11_gap 63 = .ok (.getfield 33, 3) := by decide +kernel
theorem dX11_gap_66 : decode cX11_gap 66 = .ok (.getfield 240, 3) := by decide +kernel
theorem dX11_gap_69 : decode cX11_gap 69 = .ok (.invokevirtual 243, 3) := by decide +kernel
theorem dX11_gap_72 : decode cX11_gap 72 = .ok (.ireturn, 1) := by decide +kernel
theorem dX11_gap_73 : decode cX11_gap 73 = .ok (.new 196, 3) := by decide +kernel
theorem dX11_gap_76 : decode cX11_gap 76 = .ok (.dup, 1) := by decide +kernel
theorem dX11_gap_77 : decode cX11_gap 77 = .ok (.ldc 247, 2) := by decide +kernel
theorem dX11_gap_79 : decode cX11_gap 79 = .ok (.invokespecial 200, 3) := by decide +kernel
theorem dX11_gap_82 : decode cX11_gap 82 = .ok (.athrow, 1) := by decide +kernel
theorem dX11_row_0 : decode cX11_row 0 = .ok (.aload_n 0, 1) := by decide +kernel
theorem dX11_row_1 : decode cX11_row 1 = .ok (.iload_n 1, 1) := by decide +kernel
theorem dX11_row_2 : decode cX11_row 2 = .ok (.invokevirtual 231, 3) := by decide +kernel
theorem dX11_row_5 : decode cX11_row 5 = .ok (.aload_n 0, 1) := by decide +kernel
theorem dX11_row_6 : decode cX11_row 6 = .ok (.iload_n 2, 1) := by decide +kernel
theorem dX11_row_7 : decode cX11_row 7 = .ok (.invokevirtual 201, 3) := by decide +kernel
theorem dX11_row_10 : decode cX11_row 10 = .ok (.aload_n 0, 1) := by decide +kernel
theorem dX11_row_11 : decode cX11_row 11 = .ok (.getfield 33, 3) := by decide +kernel
theorem dX11_row_14 : decode cX11_row 14 = .ok (.getfield 234, 3) := by decide +kernel
theorem dX11_row_17 : decode cX11_row 17 = .ok (.iload_n 1, 1) := by decide +kernel
theorem dX11_row_18 : decode cX11_row 18 = .ok (.iaload, 1) := by decide +kernel
theorem dX11_row_19 : decode cX11_row 19 = .ok (.istore 4, 2) := by decide +kernel
theorem dX11_row_21 : decode cX11_row 21 = .ok (.iload_n 3, 1) := by decide +kernel
theorem dX11_row_22 : decode cX11_row 22 = .ok (.ifCond .eq 17, 3) := by decide +kernel
theorem dX11_row_25 : decode cX11_row 25 = .ok (.aload_n 0, 1) := by decide +kernel
theorem dX11_row_26 : decode cX11_row 26 = .ok (.getfield 42, 3) := by decide +kernel
theorem dX11_row_29 : decode cX11_row 29 = .ok (.iload_n 1, 1) := by decide +kernel
theorem dX11_row_30 : decode cX11_row 30 = .ok (.iload_n 2, 1) := by decide +kernel
theorem dX11_row_31 : decode cX11_row 31 = .ok (.iload 4, 2) := by decide +kernel
theorem dX11_row_33 : decode cX11_row 33 = .ok (.invokevirtual 249, 3) := by decide +kernel
theorem dX11_row_36 : decode cX11_row 36 = .ok (.goto 21, 3) := by decide +kernel
theorem dX11_row_39 : decode cX11_row 39 = .ok (.aload_n 0, 1) := by decide +kernel
theorem dX11_row_40 : decode cX11_row 40 = .ok (.getfield 42, 3) := by decide +kernel
theorem dX11_row_43 : decode cX11_row 43 = .ok (.iload_n 1, 1) := by decide +kernel
theorem dX11_row_44 : decode cX11_row 44 = .ok (.iload_n 2, 1) := by decide +kernel
theorem dX11_row_45 : decode cX11_row 45 = .ok (.iload 4, 2) := by decide +kernel
theorem dX11_row_47 : decode cX11_row 47 = .ok (.aload_n 0, 1) := by decide +kernel
theorem dX11_row_48 : decode cX11_row 48 = .ok (.getfield 33, 3) := by decide +kernel
theorem dX11_row_51 : decode cX11_row 51 = .ok (.getfield 240, 3) := by decide +kernel
theorem dX11_row_54 : decode cX11_row 54 = .ok (.invokevirtual 252, 3) := by decide +kernel
theorem dX11_row_57 : decode cX11_row 57 = .ok (.ireturn, 1) := by decide +kernel
theorem dX11_fades_0 : decode cX11_fades 0 = .ok (.aload_n 0, 1) := by decide +kernel
theorem dX11_fades_1 : decode cX11_fades 1 = .ok (.iload_n 1, 1) := by decide +kernel
theorem dX11_fades_2 : decode cX11_fades 2 = .ok (.invokevirtual 256, 3) := by decide +kernel
theorem dX11_fades_5 : decode cX11_fades 5 = .ok (.aload_n 0, 1) := by decide +kernel
theorem dX11_fades_6 : decode cX11_fades 6 = .ok (.iload_n 2, 1) := by decide +kernel
theorem dX11_fades_7 : decode cX11_fades 7 = .ok (.invokevirtual 259, 3) := by decide +kernel
theorem dX11_fades_10 : decode cX11_fades 10 = .ok (.aload_n 0, 1) := by decide +kernel
theorem dX11_fades_11 : decode cX11_fades 11 = .ok (.getfield 42, 3) := by decide +kernel
theorem dX11_fades_14 : decode cX11_fades 14 = .ok (.iload_n 1, 1) := by decide +kernel
theorem dX11_fades_15 : decode cX11_fades 15 = .ok (.iload_n 2, 1) := by decide +kernel
theorem dX11_fades_16 : decode cX11_fades 16 = .ok (.invokevirtual 262, 3) := by decide +kernel
theorem dX11_fades_19 : decode cX11_fades 19 = .ok (.ireturn, 1) := by decide +kernel
theorem dX11_count_0 : decode cX11_count 0 = .ok (.iload_n 1, 1) := by decide +kernel
theorem dX11_count_1 : decode cX11_count 1 = .ok (.tableswitch 207 0 15 #[79, 87, 95, 103, 111, 119, 127, 135, 143, 151, 159, 167, 175, 183, 191, 199], 79) := by decide +kernel
theorem dX11_count_80 : decode cX11_count 80 = .ok (.aload_n 0, 1) := by decide +kernel
theorem dX11_count_81 : decode cX11_count 81 = .ok (.getfield 19, 3) := by decide +kernel
theorem dX11_count_84 : decode cX11_count 84 = .ok (.getfield 265, 3) := by decide +kernel
theorem dX11_count_87 : decode cX11_count 87 = .ok (.ireturn, 1) := by decide +kernel
theorem dX11_count_88 : decode cX11_count 88 = .ok (.aload_n 0, 1) := by decide +kernel
theorem dX11_count_89 : decode cX11_count 89 = .ok (.getfield 19, 3) := by decide +kernel
theorem dX11_count_92 : decode cX11_count 92 = .ok (.getfield 268, 3) := by decide +kernel
theorem dX11_count_95 : decode cX11_count 95 = .ok (.ireturn, 1) := by decide +kernel
theorem dX11_count_96 : decode cX11_count 96 = .ok (.aload_n 0, 1) := by decide +kernel
theorem dX11_count_97 : decode cX11_count 97 = .ok (.getfield 19, 3) := by decide +kernel
theorem dX11_count_100 : decode cX11_count 100 = .ok (.getfield 271, 3) := by decide +kernel
theorem dX11_count_103 : decode cX11_count 103 = .ok (.ireturn, 1) := by decide +kernel
theorem dX11_count_104 : decode cX11_count 104 = .ok (.aload_n 0, 1) := by decide +kernel
theorem dX11_count_105 : decode cX11_count 105 = .ok (.getfield 19, 3) := by decide +kernel
theorem dX11_count_108 : decode cX11_count 108 = .ok (.getfield 274, 3) := by decide +kernel
theorem dX11_count_111 : decode cX11_count 111 = .ok (.ireturn, 1) := by decide +kernel
theorem dX11_count_112 : decode cX11_count 112 = .ok (.aload_n 0, 1) := by decide +kernel
theorem dX11_count_113 : decode cX11_count 113 = .ok (.getfield 19, 3) := by decide +kernel
theorem dX11_count_116 : decode cX11_count 116 = .ok (.getfield 277, 3) := by decide +kernel
theorem dX11_count_119 : decode cX11_count 119 = .ok (.ireturn, 1) := by decide +kernel
theorem dX11_count_120 : decode cX11_count 120 = .ok (.aload_n 0, 1) := by decide +kernel
theorem dX11_count_121 : decode cX11_count 121 = .ok (.getfield 33, 3) := by decide +kernel
theorem dX11_count_124 : decode cX11_count 124 = .ok (.getfield 240, 3) := by decide +kernel
theorem dX11_count_127 : decode cX11_count 127 = .ok (.ireturn, 1) := by decide +kernel
theorem dX11_count_128 : decode cX11_count 128 = .ok (.aload_n 0, 1) := by decide +kernel
theorem dX11_count_129 : decode cX11_count 129 = .ok (.getfield 19, 3) := by decide +kernel
theorem dX11_count_132 : decode cX11_count 132 = .ok (.getfield 280, 3) := by decide +kernel
theorem dX11_count_135 : decode cX11_count 135 = .ok (.ireturn, 1) := by decide +kernel
theorem dX11_count_136 : decode cX11_count 136 = .ok (.aload_n 0, 1) := by decide +kernel
theorem dX11_count_137 : decode cX11_count 137 = .ok (.getfield 19, 3) := by decide +kernel
theorem dX11_count_140 : decode cX11_count 140 = .ok (.getfield 283, 3) := by decide +kernel
theorem dX11_count_143 : decode cX11_count 143 = .ok (.ireturn, 1) := by decide +kernel
theorem dX11_count_144 : decode cX11_count 144 = .ok (.aload_n 0, 1) := by decide +kernel
theorem dX11_count_145 : decode cX11_count 145 = .ok (.getfield 19, 3) := by decide +kernel
theorem dX11_count_148 : decode cX11_count 148 = .ok (.getfield 286, 3) := by decide +kernel
theorem dX11_count_151 : decode cX11_count 151 = .ok (.ireturn, 1) := by decide +kernel
theorem dX11_count_152 : decode cX11_count 152 = .ok (.aload_n 0, 1) := by decide +kernel
theorem dX11_count_153 : decode cX11_count 153 = .ok (.getfield 19, 3) := by decide +kernel
theorem dX11_count_156 : decode cX11_count 156 = .ok (.getfield 137, 3) := by decide +kernel
theorem dX11_count_159 : decode cX11_count 159 = .ok (.ireturn, 1) := by decide +kernel
theorem dX11_count_160 : decode cX11_count 160 = .ok (.aload_n 0, 1) := by decide +kernel
theorem dX11_count_161 : decode cX11_count 161 = .ok (.getfield 26, 3) := by decide +kernel
theorem dX11_count_164 : decode cX11_count 164 = .ok (.getfield 171, 3) := by decide +kernel
theorem dX11_count_167 : decode cX11_count 167 = .ok (.ireturn, 1) := by decide +kernel
theorem dX11_count_168 : decode cX11_count 168 = .ok (.aload_n 0, 1) := by decide +kernel
theorem dX11_count_169 : decode cX11_count 169 = .ok (.getfield 33, 3) := by decide +kernel
theorem dX11_count_172 : decode cX11_count 172 = .ok (.getfield 289, 3) := by decide +kernel
theorem dX11_count_175 : decode cX11_count 175 = .ok (.ireturn, 1) := by decide +kernel
theorem dX11_count_176 : decode cX11_count 176 = .ok (.aload_n 0, 1) := by decide +kernel
theorem dX11_count_177 : decode cX11_count 177 = .ok (.getfield 42, 3) := by decide +kernel
theorem dX11_count_180 : decode cX11_count 180 = .ok (.invokevirtual 292, 3) := by decide +kernel
theorem dX11_count_183 : decode cX11_count 183 = .ok (.ireturn, 1) := by decide +kernel
theorem dX11_count_184 : decode cX11_count 184 = .ok (.aload_n 0, 1) := by decide +kernel
theorem dX11_count_185 : decode cX11_count 185 = .ok (.getfield 33, 3) := by decide +kernel
theorem dX11_count_188 : decode cX11_count 188 = .ok (.getfield 296, 3) := by decide +kernel
theorem dX11_count_191 : decode cX11_count 191 = .ok (.ireturn, 1) := by decide +kernel
theorem dX11_count_192 : decode cX11_count 192 = .ok (.aload_n 0, 1) := by decide +kernel
theorem dX11_count_193 : decode cX11_count 193 = .ok (.getfield 33, 3) := by decide +kernel
theorem dX11_count_196 : decode cX11_count 196 = .ok (.getfield 299, 3) := by decide +kernel
theorem dX11_count_199 : decode cX11_count 199 = .ok (.ireturn, 1) := by decide +kernel
theorem dX11_count_200 : decode cX11_count 200 = .ok (.aload_n 0, 1) := by decide +kernel
theorem dX11_count_201 : decode cX11_count 201 = .ok (.getfield 67, 3) := by decide +kernel
theorem dX11_count_204 : decode cX11_count 204 = .ok (.getfield 302, 3) := by decide +kernel
theorem dX11_count_207 : decode cX11_count 207 = .ok (.ireturn, 1) := by decide +kernel
theorem dX11_count_208 : decode cX11_count 208 = .ok (.iconst (-1), 1) := by decide +kernel
theorem dX11_count_209 : decode cX11_count 209 = .ok (.ireturn, 1) := by decide +kernel
theorem dX11_shift_0 : decode cX11_shift 0 = .ok (.aload_n 0, 1) := by decide +kernel
theorem dX11_shift_1 : decode cX11_shift 1 = .ok (.iload_n 1, 1) := by decide +kernel
theorem dX11_shift_2 : decode cX11_shift 2 = .ok (.invokevirtual 231, 3) := by decide +kernel
theorem dX11_shift_5 : decode cX11_shift 5 = .ok (.aload_n 0, 1) := by decide +kernel
theorem dX11_shift_6 : decode cX11_shift 6 = .ok (.iload_n 2, 1) := by decide +kernel
theorem dX11_shift_7 : decode cX11_shift 7 = .ok (.invokevirtual 305, 3) := by decide +kernel
theorem dX11_shift_10 : decode cX11_shift 10 = .ok (.aload_n 0, 1) := by decide +kernel
theorem dX11_shift_11 : decode cX11_shift 11 = .ok (.getfield 67, 3) := by decide +kernel
theorem dX11_shift_14 : decode cX11_shift 14 = .ok (.aload_n 0, 1) := by decide +kernel
theorem dX11_shift_15 : decode cX11_shift 15 = .ok (.getfield 33, 3) := by decide +kernel
theorem dX11_shift_18 : decode cX11_shift 18 = .ok (.invokevirtual 308, 3) := by decide +kernel
theorem dX11_shift_21 : decode cX11_shift 21 = .ok (.aload_n 0, 1) := by decide +kernel
theorem dX11_shift_22 : decode cX11_shift 22 = .ok (.getfield 33, 3) := by decide +kernel
theorem dX11_shift_25 : decode cX11_shift 25 = .ok (.getfield 234, 3) := by decide +kernel
theorem dX11_shift_28 : decode cX11_shift 28 = .ok (.iload_n 1, 1) := by decide +kernel
theorem dX11_shift_29 : decode cX11_shift 29 = .ok (.iaload, 1) := by decide +kernel
theorem dX11_shift_30 : decode cX11_shift 30 = .ok (.istore_n 3, 1) := by decide +kernel
theorem dX11_shift_31 : decode cX11_shift 31 = .ok (.aload_n 0, 1) := by decide +kernel
theorem dX11_shift_32 : decode cX11_shift 32 = .ok (.getfield 33, 3) := by decide +kernel
theorem dX11_shift_35 : decode cX11_shift 35 = .ok (.getfield 234, 3) := by decide +kernel
theorem dX11_shift_38 : decode cX11_shift 38 = .ok (.iload_n 1, 1) := by decide +kernel
theorem dX11_shift_39 : decode cX11_shift 39 = .ok (.iload_n 2, 1) := by decide +kernel
theorem dX11_shift_40 : decode cX11_shift 40 = .ok (.iastore, 1) := by decide +kernel
theorem dX11_shift_41 : decode cX11_shift 41 = .ok (.iload_n 3, 1) := by decide +kernel
theorem dX11_shift_42 : decode cX11_shift 42 = .ok (.ireturn, 1) := by decide +kernel
theorem dX11_squeezed_0 : decode cX11_squeezed 0 = .ok (.aload_n 0, 1) := by decide +kernel
theorem dX11_squeezed_1 : decode cX11_squeezed 1 = .ok (.iload_n 1, 1) := by decide +kernel
theorem dX11_squeezed_2 : decode cX11_squeezed 2 = .ok (.invokevirtual 211, 3) := by decide +kernel
theorem dX11_squeezed_5 : decode cX11_squeezed 5 = .ok (.iload_n 2, 1) := by decide +kernel
theorem dX11_squeezed_6 : decode cX11_squeezed 6 = .ok (.ifCond .lt 31, 3) := by decide +kernel
theorem dX11_squeezed_9 : decode cX11_squeezed 9 = .ok (.iload_n 2, 1) := by decide +kernel
theorem dX11_squeezed_10 : decode cX11_squeezed 10 = .ok (.iconst 3, 1) := by decide +kernel
theorem dX11_squeezed_11 : decode cX11_squeezed 11 = .ok (.if_icmp .gt 26, 3) := by decide +kernel
theorem dX11_squeezed_14 : decode cX11_squeezed 14 = .ok (.aload_n 0, 1) := by decide +kernel
theorem dX11_squeezed_15 : decode cX11_squeezed 15 = .ok (.getfield 19, 3) := by decide +kernel
theorem dX11_squeezed_18 : decode cX11_squeezed 18 = .ok (.getfield 189, 3) := by decide +kernel
theorem dX11_squeezed_21 : decode cX11_squeezed 21 = .ok (.aload_n 0, 1) := by decide +kernel
theorem dX11_squeezed_22 : decode cX11_squeezed 22 = .ok (.getfield 19, 3) := by decide +kernel
theorem dX11_squeezed_25 : decode cX11_squeezed 25 = .ok (.getfield 214, 3) := by decide +kernel
theorem dX11_squeezed_28 : decode cX11_squeezed 28 = .ok (.iload_n 1, 1) := by decide +kernel
theorem dX11_squeezed_29 : decode cX11_squeezed 29 = .ok (.iaload, 1) := by decide +kernel
theorem dX11_squeezed_30 : decode cX11_squeezed 30 = .ok (.iaload, 1) := by decide +kernel
theorem dX11_squeezed_31 : decode cX11_squeezed 31 = .ok (.iload_n 2, 1) := by decide +kernel
theorem dX11_squeezed_32 : decode cX11_squeezed 32 = .ok (.isub, 1) := by decide +kernel
theorem dX11_squeezed_33 : decode cX11_squeezed 33 = .ok (.iconst 1, 1) := by decide +kernel
theorem dX11_squeezed_34 : decode cX11_squeezed 34 = .ok (.if_icmp .ge 14, 3) := by decide +kernel
theorem dX11_squeezed_37 : decode cX11_squeezed 37 = .ok (.new 130, 3) := by decide +kernel
theorem dX11_squeezed_40 : decode cX11_squeezed 40 = .ok (.dup, 1) := by decide +kernel
theorem dX11_squeezed_41 : decode cX11_squeezed 41 = .ok (.ldc_w 312, 3) := by decide +kernel
theorem dX11_squeezed_44 : decode cX11_squeezed 44 = .ok (.invokespecial 134, 3) := by decide +kernel
theorem dX11_squeezed_47 : decode cX11_squeezed 47 = .ok (.athrow, 1) := by decide +kernel
theorem dX11_squeezed_48 : decode cX11_squeezed 48 = .ok (.aload_n 0, 1) := by decide +kernel
theorem dX11_squeezed_49 : decode cX11_squeezed 49 = .ok (.getfield 67, 3) := by decide +kernel
theorem dX11_squeezed_52 : decode cX11_squeezed 52 = .ok (.aload_n 0, 1) := by decide +kernel
theorem dX11_squeezed_53 : decode cX11_squeezed 53 = .ok (.getfield 33, 3) := by decide +kernel
theorem dX11_squeezed_56 : decode cX11_squeezed 56 = .ok (.invokevirtual 308, 3) := by decide +kernel
theorem dX11_squeezed_59 : decode cX11_squeezed 59 = .ok (.aload_n 0, 1) := by decide +kernel
theorem dX11_squeezed_60 : decode cX11_squeezed 60 = .ok (.getfield 33, 3) := by decide +kernel
theorem dX11_squeezed_63 : decode cX11_squeezed 63 = .ok (.getfield 217, 3) := by decide +kernel
theorem dX11_squeezed_66 : decode cX11_squeezed 66 = .ok (.iload_n 1, 1) := by decide +kernel
theorem dX11_squeezed_67 : decode cX11_squeezed 67 = .ok (.iaload, 1) := by decide +kernel
theorem dX11_squeezed_68 : decode cX11_squeezed 68 = .ok (.istore_n 3, 1) := by decide +kernel
theorem dX11_squeezed_69 : decode cX11_squeezed 69 = .ok (.aload_n 0, 1) := by decide +kernel
theorem dX11_squeezed_70 : decode cX11_squeezed 70 = .ok (.getfield 33, 3) := by decide +kernel
theorem dX11_squeezed_73 : decode cX11_squeezed 73 = .ok (.getfield 217, 3) := by decide +kernel
theorem dX11_squeezed_76 : decode cX11_squeezed 76 = .ok (.iload_n 1, 1) := by decide +kernel
theorem dX11_squeezed_77 : decode cX11_squeezed 77 = .ok (.iload_n 2, 1) := by decide +kernel
theorem dX11_squeezed_78 : decode cX11_squeezed 78 = .ok (.iastore, 1) := by decide +kernel
theorem dX11_squeezed_79 : decode cX11_squeezed 79 = .ok (.iload_n 3, 1) := by decide +kernel
theorem dX11_squeezed_80 : decode cX11_squeezed 80 = .ok (.ireturn, 1) := by decide +kernel
theorem dX11_shadow_0 : decode cX11_shadow 0 = .ok (.iload_n 1, 1) := by decide +kernel
theorem dX11_shadow_1 : decode cX11_shadow 1 = .ok (.ifCond .lt 9, 3) := by decide +kernel
theorem dX11_shadow_4 : decode cX11_shadow 4 = .ok (.iload_n 1, 1) := by decide +kernel
theorem dX11_shadow_5 : decode cX11_shadow 5 = .ok (.bipush 9, 2) := by decide +kernel
theorem dX11_shadow_7 : decode cX11_shadow 7 = .ok (.if_icmp .le 14, 3) := by decide +kernel
theorem dX11_shadow_10 : decode cX11_shadow 10 = .ok (.new 130, 3) := by decide +kernel
theorem dX11_shadow_13 : decode cX11_shadow 13 = .ok (.dup, 1) := by decide +kernel
theorem dX11_shadow_14 : decode cX11_shadow 14 = .ok (.ldc_w 314, 3) := by decide +kernel
theorem dX11_shadow_17 : decode cX11_shadow 17 = .ok (.invokespecial 134, 3) := by decide +kernel
theorem dX11_shadow_20 : decode cX11_shadow 20 = .ok (.athrow, 1) := by decide +kernel
theorem dX11_shadow_21 : decode cX11_shadow 21 = .ok (.aload_n 0, 1) := by decide +kernel
theorem dX11_shadow_22 : decode cX11_shadow 22 = .ok (.getfield 67, 3) := by decide +kernel
theorem dX11_shadow_25 : decode cX11_shadow 25 = .ok (.aload_n 0, 1) := by decide +kernel
theorem dX11_shadow_26 : decode cX11_shadow 26 = .ok (.getfield 33, 3) := by decide +kernel
theorem dX11_shadow_29 : decode cX11_shadow 29 = .ok (.invokevirtual 308, 3) := by decide +kernel
theorem dX11_shadow_32 : decode cX11_shadow 32 = .ok (.aload_n 0, 1) := by decide +kernel
theorem dX11_shadow_33 : decode cX11_shadow 33 = .ok (.getfield 33, 3) := by decide +kernel
theorem dX11_shadow_36 : decode cX11_shadow 36 = .ok (.getfield 240, 3) := by decide +kernel
theorem dX11_shadow_39 : decode cX11_shadow 39 = .ok (.istore_n 2, 1) := by decide +kernel
theorem dX11_shadow_40 : decode cX11_shadow 40 = .ok (.aload_n 0, 1) := by decide +kernel
theorem dX11_shadow_41 : decode cX11_shadow 41 = .ok (.getfield 33, 3) := by decide +kernel
theorem dX11_shadow_44 : decode cX11_shadow 44 = .ok (.iload_n 1, 1) := by decide +kernel
theorem dX11_shadow_45 : decode cX11_shadow 45 = .ok (.putfield 240, 3) := by decide +kernel
theorem dX11_shadow_48 : decode cX11_shadow 48 = .ok (.aload_n 0, 1) := by decide +kernel
theorem dX11_shadow_49 : decode cX11_shadow 49 = .ok (.getfield 42, 3) := by decide +kernel
theorem dX11_shadow_52 : decode cX11_shadow 52 = .ok (.invokevirtual 179, 3) := by decide +kernel
theorem dX11_shadow_55 : decode cX11_shadow 55 = .ok (.iload_n 2, 1) := by decide +kernel
theorem dX11_shadow_56 : decode cX11_shadow 56 = .ok (.ireturn, 1) := by decide +kernel
theorem dX11_lays_0 : decode cX11_lays 0 = .ok (.aload_n 0, 1) := by decide +kernel
theorem dX11_lays_1 : decode cX11_lays 1 = .ok (.iload_n 1, 1) := by decide +kernel
theorem dX11_lays_2 : decode cX11_lays 2 = .ok (.invokevirtual 316, 3) := by decide +kernel
theorem dX11_lays_5 : decode cX11_lays 5 = .ok (.aload_n 0, 1) := by decide +kernel
theorem dX11_lays_6 : decode cX11_lays 6 = .ok (.getfield 51, 3) := by decide +kernel
theorem dX11_lays_9 : decode cX11_lays 9 = .ok (.iload_n 1, 1) := by decide +kernel
theorem dX11_lays_10 : decode cX11_lays 10 = .ok (.iconst 0, 1) := by decide +kernel
theorem dX11_lays_11 : decode cX11_lays 11 = .ok (.invokevirtual 319, 3) := by decide +kernel
theorem dX11_lays_14 : decode cX11_lays 14 = .ok (.istore_n 2, 1) := by decide +kernel
theorem dX11_lays_15 : decode cX11_lays 15 = .ok (.iload_n 2, 1) := by decide +kernel
theorem dX11_lays_16 : decode cX11_lays 16 = .ok (.iconst (-1), 1) := by decide +kernel
theorem dX11_lays_17 : decode cX11_lays 17 = .ok (.if_icmp .ne 14, 3) := by decide +kernel
theorem dX11_lays_20 : decode cX11_lays 20 = .ok (.new 322, 3) := by decide +kernel
theorem dX11_lays_23 : decode cX11_lays 23 = .ok (.dup, 1) := by decide +kernel
theorem dX11_lays_24 : decode cX11_lays 24 = .ok (.ldc_w 324, 3) := by decide +kernel
theorem dX11_lays_27 : decode cX11_lays 27 = .ok (.invokespecial 326, 3) := by decide +kernel
theorem dX11_lays_30 : decode cX11_lays 30 = .ok (.athrow, 1) := by decide +kernel
theorem dX11_lays_31 : decode cX11_lays 31 = .ok (.aload_n 0, 1) := by decide +kernel
theorem dX11_lays_32 : decode cX11_lays 32 = .ok (.getfield 67, 3) := by decide +kernel
theorem dX11_lays_35 : decode cX11_lays 35 = .ok (.aload_n 0, 1) := by decide +kernel
theorem dX11_lays_36 : decode cX11_lays 36 = .ok (.getfield 33, 3) := by decide +kernel
theorem dX11_lays_39 : decode cX11_lays 39 = .ok (.invokevirtual 308, 3) := by decide +kernel
theorem dX11_lays_42 : decode cX11_lays 42 = .ok (.aload_n 0, 1) := by decide +kernel
theorem dX11_lays_43 : decode cX11_lays 43 = .ok (.getfield 51, 3) := by decide +kernel
theorem dX11_lays_46 : decode cX11_lays 46 = .ok (.aload_n 0, 1) := by decide +kernel
theorem dX11_lays_47 : decode cX11_lays 47 = .ok (.getfield 33, 3) := by decide +kernel
theorem dX11_lays_50 : decode cX11_lays 50 = .ok (.getfield 234, 3) := by decide +kernel
theorem dX11_lays_53 : decode cX11_lays 53 = .ok (.invokevirtual 327, 3) := by decide +kernel
theorem dX11_lays_56 : decode cX11_lays 56 = .ok (.iload_n 2, 1) := by decide +kernel
theorem dX11_lays_57 : decode cX11_lays 57 = .ok (.ireturn, 1) := by decide +kernel
theorem dX11_paint_0 : decode cX11_paint 0 = .ok (.aload_n 0, 1) := by decide +kernel
theorem dX11_paint_1 : decode cX11_paint 1 = .ok (.iload_n 1, 1) := by decide +kernel
theorem dX11_paint_2 : decode cX11_paint 2 = .ok (.invokevirtual 331, 3) := by decide +kernel
theorem dX11_paint_5 : decode cX11_paint 5 = .ok (.aload_n 0, 1) := by decide +kernel
theorem dX11_paint_6 : decode cX11_paint 6 = .ok (.getfield 67, 3) := by decide +kernel
theorem dX11_paint_9 : decode cX11_paint 9 = .ok (.aload_n 0, 1) := by decide +kernel
theorem dX11_paint_10 : decode cX11_paint 10 = .ok (.getfield 33, 3) := by decide +kernel
theorem dX11_paint_13 : decode cX11_paint 13 = .ok (.invokevirtual 308, 3) := by decide +kernel
theorem dX11_paint_16 : decode cX11_paint 16 = .ok (.aload_n 0, 1) := by decide +kernel
theorem dX11_paint_17 : decode cX11_paint 17 = .ok (.getfield 33, 3) := by decide +kernel
theorem dX11_paint_20 : decode cX11_paint 20 = .ok (.iload_n 1, 1) := by decide +kernel
theorem dX11_paint_21 : decode cX11_paint 21 = .ok (.aload_n 0, 1) := by decide +kernel
theorem dX11_paint_22 : decode cX11_paint 22 = .ok (.getfield 19, 3) := by decide +kernel
theorem dX11_paint_25 : decode cX11_paint 25 = .ok (.getfield 334, 3) := by decide +kernel
theorem dX11_paint_28 : decode cX11_paint 28 = .ok (.iload_n 1, 1) := by decide +kernel
theorem dX11_paint_29 : decode cX11_paint 29 = .ok (.iaload, 1) := by decide +kernel
theorem dX11_paint_30 : decode cX11_paint 30 = .ok (.aload_n 0, 1) := by decide +kernel
theorem dX11_paint_31 : decode cX11_paint 31 = .ok (.getfield 19, 3) := by decide +kernel
theorem dX11_paint_34 : decode cX11_paint 34 = .ok (.getfield 268, 3) := by decide +kernel
theorem dX11_paint_37 : decode cX11_paint 37 = .ok (.invokevirtual 337, 3) := by decide +kernel
theorem dX11_paint_40 : decode cX11_paint 40 = .ok (.ireturn, 1) := by decide +kernel
theorem dX11_seed_0 : decode cX11_seed 0 = .ok (.aload_n 0, 1) := by decide +kernel
theorem dX11_seed_1 : decode cX11_seed 1 = .ok (.getfield 33, 3) := by decide +kernel
theorem dX11_seed_4 : decode cX11_seed 4 = .ok (.getfield 340, 3) := by decide +kernel
theorem dX11_seed_7 : decode cX11_seed 7 = .ok (.istore_n 2, 1) := by decide +kernel
theorem dX11_seed_8 : decode cX11_seed 8 = .ok (.aload_n 0, 1) := by decide +kernel
theorem dX11_seed_9 : decode cX11_seed 9 = .ok (.getfield 33, 3) := by decide +kernel
theorem dX11_seed_12 : decode cX11_seed 12 = .ok (.iload_n 1, 1) := by decide +kernel
theorem dX11_seed_13 : decode cX11_seed 13 = .ok (.putfield 340, 3) := by decide +kernel
theorem dX11_seed_16 : decode cX11_seed 16 = .ok (.iload_n 2, 1) := by decide +kernel
theorem dX11_seed_17 : decode cX11_seed 17 = .ok (.ireturn, 1) := by decide +kernel
theorem dX11_undo_0 : decode cX11_undo 0 = .ok (.aload_n 0, 1) := by decide +kernel
theorem dX11_undo_1 : decode cX11_undo 1 = .ok (.getfield 67, 3) := by decide +kernel
theorem dX11_undo_4 : decode cX11_undo 4 = .ok (.aload_n 0, 1) := by decide +kernel
theorem dX11_undo_5 : decode cX11_undo 5 = .ok (.getfield 33, 3) := by decide +kernel
theorem dX11_undo_8 : decode cX11_undo 8 = .ok (.invokevirtual 343, 3) := by decide +kernel
theorem dX11_undo_11 : decode cX11_undo 11 = .ok (.ifCond .ne 5, 3) := by decide +kernel
theorem dX11_undo_14 : decode cX11_undo 14 = .ok (.iconst 0, 1) := by decide +kernel
theorem dX11_undo_15 : decode cX11_undo 15 = .ok (.ireturn, 1) := by decide +kernel
theorem dX11_undo_16 : decode cX11_undo 16 = .ok (.aload_n 0, 1) := by decide +kernel
theorem dX11_undo_17 : decode cX11_undo 17 = .ok (.getfield 42, 3) := by decide +kernel
theorem dX11_undo_20 : decode cX11_undo 20 = .ok (.invokevirtual 179, 3) := by decide +kernel
theorem dX11_undo_23 : decode cX11_undo 23 = .ok (.iconst 1, 1) := by decide +kernel
theorem dX11_undo_24 : decode cX11_undo 24 = .ok (.ireturn, 1) := by decide +kernel
theorem dX11_image_0 : decode cX11_image 0 = .ok (.aload_n 0, 1) := by decide +kernel
theorem dX11_image_1 : decode cX11_image 1 = .ok (.getfield 90, 3) := by decide +kernel
theorem dX11_image_4 : decode cX11_image 4 = .ok (.aload_n 0, 1) := by decide +kernel
theorem dX11_image_5 : decode cX11_image 5 = .ok (.getfield 19, 3) := by decide +kernel
theorem dX11_image_8 : decode cX11_image 8 = .ok (.invokevirtual 148, 3) := by decide +kernel
theorem dX11_image_11 : decode cX11_image 11 = .ok (.aload_n 0, 1) := by decide +kernel
theorem dX11_image_12 : decode cX11_image 12 = .ok (.getfield 93, 3) := by decide +kernel
theorem dX11_image_15 : decode cX11_image 15 = .ok (.aload_n 0, 1) := by decide +kernel
theorem dX11_image_16 : decode cX11_image 16 = .ok (.getfield 26, 3) := by decide +kernel
theorem dX11_image_19 : decode cX11_image 19 = .ok (.invokevirtual 168, 3) := by decide +kernel
theorem dX11_image_22 : decode cX11_image 22 = .ok (.aload_n 0, 1) := by decide +kernel
theorem dX11_image_23 : decode cX11_image 23 = .ok (.getfield 96, 3) := by decide +kernel
theorem dX11_image_26 : decode cX11_image 26 = .ok (.aload_n 0, 1) := by decide +kernel
theorem dX11_image_27 : decode cX11_image 27 = .ok (.getfield 33, 3) := by decide +kernel
theorem dX11_image_30 : decode cX11_image 30 = .ok (.invokevirtual 347, 3) := by decide +kernel
theorem dX11_image_33 : decode cX11_image 33 = .ok (.aload_n 0, 1) := by decide +kernel
theorem dX11_image_34 : decode cX11_image 34 = .ok (.iconst 1, 1) := by decide +kernel
theorem dX11_image_35 : decode cX11_image 35 = .ok (.putfield 99, 3) := by decide +kernel
theorem dX11_image_38 : decode cX11_image 38 = .ok (.return_, 1) := by decide +kernel
theorem dX11_back_0 : decode cX11_back 0 = .ok (.aload_n 0, 1) := by decide +kernel
theorem dX11_back_1 : decode cX11_back 1 = .ok (.getfield 99, 3) := by decide +kernel
theorem dX11_back_4 : decode cX11_back 4 = .ok (.ifCond .ne 5, 3) := by decide +kernel
theorem dX11_back_7 : decode cX11_back 7 = .ok (.iconst 0, 1) := by decide +kernel
theorem dX11_back_8 : decode cX11_back 8 = .ok (.ireturn, 1) := by decide +kernel
theorem dX11_back_9 : decode cX11_back 9 = .ok (.aload_n 0, 1) := by decide +kernel
theorem dX11_back_10 : decode cX11_back 10 = .ok (.getfield 19, 3) := by decide +kernel
theorem dX11_back_13 : decode cX11_back 13 = .ok (.aload_n 0, 1) := by decide +kernel
theorem dX11_back_14 : decode cX11_back 14 = .ok (.getfield 90, 3) := by decide +kernel
theorem dX11_back_17 : decode cX11_back 17 = .ok (.invokevirtual 148, 3) := by decide +kernel
theorem dX11_back_20 : decode cX11_back 20 = .ok (.aload_n 0, 1) := by decide +kernel
theorem dX11_back_21 : decode cX11_back 21 = .ok (.getfield 26, 3) := by decide +kernel
theorem dX11_back_24 : decode cX11_back 24 = .ok (.aload_n 0, 1) := by decide +kernel
theorem dX11_back_25 : decode cX11_back 25 = .ok (.getfield 93, 3) := by decide +kernel
theorem dX11_back_28 : decode cX11_back 28 = .ok (.invokevirtual 168, 3) := by decide +kernel
theorem dX11_back_31 : decode cX11_back 31 = .ok (.aload_n 0, 1) := by decide +kernel
theorem dX11_back_32 : decode cX11_back 32 = .ok (.getfield 33, 3) := by decide +kernel
theorem dX11_back_35 : decode cX11_back 35 = .ok (.aload_n 0, 1) := by decide +kernel
theorem dX11_back_36 : decode cX11_back 36 = .ok (.getfield 96, 3) := by decide +kernel
theorem dX11_back_39 : decode cX11_back 39 = .ok (.invokevirtual 347, 3) := by decide +kernel
theorem dX11_back_42 : decode cX11_back 42 = .ok (.aload_n 0, 1) := by decide +kernel
theorem dX11_back_43 : decode cX11_back 43 = .ok (.invokevirtual 157, 3) := by decide +kernel
theorem dX11_back_46 : decode cX11_back 46 = .ok (.iconst 1, 1) := by decide +kernel
theorem dX11_back_47 : decode cX11_back 47 = .ok (.ireturn, 1) := by decide +kernel
theorem dX11_uneven_0 : decode cX11_uneven 0 = .ok (.aload_n 0, 1) := by decide +kernel
theorem dX11_uneven_1 : decode cX11_uneven 1 = .ok (.getfield 42, 3) := by decide +kernel
theorem dX11_uneven_4 : decode cX11_uneven 4 = .ok (.aload_n 0, 1) := by decide +kernel
theorem dX11_uneven_5 : decode cX11_uneven 5 = .ok (.getfield 33, 3) := by decide +kernel
theorem dX11_uneven_8 : decode cX11_uneven 8 = .ok (.getfield 234, 3) := by decide +kernel
theorem dX11_uneven_11 : decode cX11_uneven 11 = .ok (.iconst 0, 1) := by decide +kernel
theorem dX11_uneven_12 : decode cX11_uneven 12 = .ok (.invokevirtual 349, 3) := by decide +kernel
theorem dX11_uneven_15 : decode cX11_uneven 15 = .ok (.ireturn, 1) := by decide +kernel
theorem dX11_off_0 : decode cX11_off 0 = .ok (.aload_n 0, 1) := by decide +kernel
theorem dX11_off_1 : decode cX11_off 1 = .ok (.iload_n 1, 1) := by decide +kernel
theorem dX11_off_2 : decode cX11_off 2 = .ok (.invokevirtual 316, 3) := by decide +kernel
theorem dX11_off_5 : decode cX11_off 5 = .ok (.iconst 0, 1) := by decide +kernel
theorem dX11_off_6 : decode cX11_off 6 = .ok (.istore_n 2, 1) := by decide +kernel
theorem dX11_off_7 : decode cX11_off 7 = .ok (.iconst 0, 1) := by decide +kernel
theorem dX11_off_8 : decode cX11_off 8 = .ok (.istore_n 3, 1) := by decide +kernel
theorem dX11_off_9 : decode cX11_off 9 = .ok (.iload_n 3, 1) := by decide +kernel
theorem dX11_off_10 : decode cX11_off 10 = .ok (.aload_n 0, 1) := by decide +kernel
theorem dX11_off_11 : decode cX11_off 11 = .ok (.getfield 19, 3) := by decide +kernel
theorem dX11_off_14 : decode cX11_off 14 = .ok (.invokevirtual 353, 3) := by decide +kernel
theorem dX11_off_17 : decode cX11_off 17 = .ok (.if_icmp .ge 34, 3) := by decide +kernel
theorem dX11_off_20 : decode cX11_off 20 = .ok (.iload_n 2, 1) := by decide +kernel
theorem dX11_off_21 : decode cX11_off 21 = .ok (.aload_n 0, 1) := by decide +kernel
theorem dX11_off_22 : decode cX11_off 22 = .ok (.getfield 42, 3) := by decide +kernel
theorem dX11_off_25 : decode cX11_off 25 = .ok (.iload_n 3, 1) := by decide +kernel
theorem dX11_off_26 : decode cX11_off 26 = .ok (.aload_n 0, 1) := by decide +kernel
theorem dX11_off_27 : decode cX11_off 27 = .ok (.getfield 33, 3) := by decide +kernel
theorem dX11_off_30 : decode cX11_off 30 = .ok (.getfield 234, 3) := by decide +kernel
theorem dX11_off_33 : decode cX11_off 33 = .ok (.iload_n 3, 1) := by decide +kernel
theorem dX11_off_34 : decode cX11_off 34 = .ok (.iaload, 1) := by decide +kernel
theorem dX11_off_35 : decode cX11_off 35 = .ok (.invokevirtual 237, 3) := by decide +kernel
theorem dX11_off_38 : decode cX11_off 38 = .ok (.iload_n 1, 1) := by decide +kernel
theorem dX11_off_39 : decode cX11_off 39 = .ok (.isub, 1) := by decide +kernel
theorem dX11_off_40 : decode cX11_off 40 = .ok (.invokestatic 356, 3) := by decide +kernel
theorem dX11_off_43 : decode cX11_off 43 = .ok (.iadd, 1) := by decide +kernel
theorem dX11_off_44 : decode cX11_off 44 = .ok (.istore_n 2, 1) := by decide +kernel
theorem dX11_off_45 : decode cX11_off 45 = .ok (.iinc 3 1, 3) := by decide +kernel
theorem dX11_off_48 : decode cX11_off 48 = .ok (.goto (-39), 3) := by decide +kernel
theorem dX11_off_51 : decode cX11_off 51 = .ok (.iload_n 2, 1) := by decide +kernel
theorem dX11_off_52 : decode cX11_off 52 = .ok (.ireturn, 1) := by decide +kernel
theorem dX11_fits_0 : decode cX11_fits 0 = .ok (.aload_n 0, 1) := by decide +kernel
theorem dX11_fits_1 : decode cX11_fits 1 = .ok (.getfield 42, 3) := by decide +kernel
theorem dX11_fits_4 : decode cX11_fits 4 = .ok (.aload_n 0, 1) := by decide +kernel
theorem dX11_fits_5 : decode cX11_fits 5 = .ok (.getfield 33, 3) := by decide +kernel
theorem dX11_fits_8 : decode cX11_fits 8 = .ok (.getfield 240, 3) := by decide +kernel
theorem dX11_fits_11 : decode cX11_fits 11 = .ok (.invokevirtual 361, 3) := by decide +kernel
theorem dX11_fits_14 : decode cX11_fits 14 = .ok (.ireturn, 1) := by decide +kernel
theorem dX11_laid_0 : decode cX11_laid 0 = .ok (.aload_n 0, 1) := by decide +kernel
theorem dX11_laid_1 : decode cX11_laid 1 = .ok (.iload_n 1, 1) := by decide +kernel
theorem dX11_laid_2 : decode cX11_laid 2 = .ok (.invokevirtual 316, 3) := by decide +kernel
theorem dX11_laid_5 : decode cX11_laid 5 = .ok (.aload_n 0, 1) := by decide +kernel
theorem dX11_laid_6 : decode cX11_laid 6 = .ok (.getfield 51, 3) := by decide +kernel
theorem dX11_laid_9 : decode cX11_laid 9 = .ok (.iload_n 1, 1) := by decide +kernel
theorem dX11_laid_10 : decode cX11_laid 10 = .ok (.iconst 0, 1) := by decide +kernel
theorem dX11_laid_11 : decode cX11_laid 11 = .ok (.invokevirtual 319, 3) := by decide +kernel
theorem dX11_laid_14 : decode cX11_laid 14 = .ok (.istore_n 3, 1) := by decide +kernel
theorem dX11_laid_15 : decode cX11_laid 15 = .ok (.iload_n 3, 1) := by decide +kernel
theorem dX11_laid_16 : decode cX11_laid 16 = .ok (.iconst (-1), 1) := by decide +kernel
theorem dX11_laid_17 : decode cX11_laid 17 = .ok (.if_icmp .eq 8, 3) := by decide +kernel
theorem dX11_laid_20 : decode cX11_laid 20 = .ok (.iload_n 2, 1) := by decide +kernel
theorem dX11_laid_21 : decode cX11_laid 21 = .ok (.iconst (-1), 1) := by decide +kernel
theorem dX11_laid_22 : decode cX11_laid 22 = .ok (.if_icmp .ne 5, 3) := by decide +kernel
theorem dX11_laid_25 : decode cX11_laid 25 = .ok (.iload_n 3, 1) := by decide +kernel
theorem dX11_laid_26 : decode cX11_laid 26 = .ok (.ireturn, 1) := by decide +kernel
theorem dX11_laid_27 : decode cX11_laid 27 = .ok (.iload_n 2, 1) := by decide +kernel
theorem dX11_laid_28 : decode cX11_laid 28 = .ok (.ifCond .lt 14, 3) := by decide +kernel
theorem dX11_laid_31 : decode cX11_laid 31 = .ok (.iload_n 2, 1) := by decide +kernel
theorem dX11_laid_32 : decode cX11_laid 32 = .ok (.aload_n 0, 1) := by decide +kernel
theorem dX11_laid_33 : decode cX11_laid 33 = .ok (.getfield 19, 3) := by decide +kernel
theorem dX11_laid_36 : decode cX11_laid 36 = .ok (.invokevirtual 353, 3) := by decide +kernel
theorem dX11_laid_39 : decode cX11_laid 39 = .ok (.if_icmp .lt 7, 3) := by decide +kernel
theorem dX11_laid_42 : decode cX11_laid 42 = .ok (.iconst (-1), 1) := by decide +kernel
theorem dX11_laid_43 : decode cX11_laid 43 = .ok (.goto 11, 3) := by decide +kernel
theorem dX11_laid_46 : decode cX11_laid 46 = .ok (.aload_n 0, 1) := by decide +kernel
theorem dX11_laid_47 : decode cX11_laid 47 = .ok (.getfield 51, 3) := by decide +kernel
theorem dX11_laid_50 : decode cX11_laid 50 = .ok (.iload_n 2, 1) := by decide +kernel
theorem dX11_laid_51 : decode cX11_laid 51 = .ok (.invokevirtual 364, 3) := by decide +kernel
theorem dX11_laid_54 : decode cX11_laid 54 = .ok (.ireturn, 1) := by decide +kernel
theorem dX11_best_0 : decode cX11_best 0 = .ok (.iconst 0, 1) := by decide +kernel
theorem dX11_best_1 : decode cX11_best 1 = .ok (.istore_n 2, 1) := by decide +kernel
theorem dX11_best_2 : decode cX11_best 2 = .ok (.aload_n 0, 1) := by decide +kernel
theorem dX11_best_3 : decode cX11_best 3 = .ok (.getfield 51, 3) := by decide +kernel
theorem dX11_best_6 : decode cX11_best 6 = .ok (.iconst 0, 1) := by decide +kernel
theorem dX11_best_7 : decode cX11_best 7 = .ok (.iconst 0, 1) := by decide +kernel
theorem dX11_best_8 : decode cX11_best 8 = .ok (.invokevirtual 319, 3) := by decide +kernel
theorem dX11_best_11 : decode cX11_best 11 = .ok (.istore_n 3, 1) := by decide +kernel
theorem dX11_best_12 : decode cX11_best 12 = .ok (.iload_n 3, 1) := by decide +kernel
theorem dX11_best_13 : decode cX11_best 13 = .ok (.iconst (-1), 1) := by decide +kernel
theorem dX11_best_14 : decode cX11_best 14 = .ok (.if_icmp .ne 5, 3) := by decide +kernel
theorem dX11_best_17 : decode cX11_best 17 = .ok (.iconst (-1), 1) := by decide +kernel
theorem dX11_best_18 : decode cX11_best 18 = .ok (.ireturn, 1) := by decide +kernel
theorem dX11_best_19 : decode cX11_best 19 = .ok (.iconst 1, 1) := by decide +kernel
theorem dX11_best_20 : decode cX11_best 20 = .ok (.istore 4, 2) := by decide +kernel
theorem dX11_best_22 : decode cX11_best 22 = .ok (.iload 4, 2) := by decide +kernel
theorem dX11_best_24 : decode cX11_best 24 = .ok (.bipush 120, 2) := by decide +kernel
theorem dX11_best_26 : decode cX11_best 26 = .ok (.if_icmp .gt 57, 3) := by decide +kernel
theorem dX11_best_29 : decode cX11_best 29 = .ok (.iload_n 3, 1) := by decide +kernel
theorem dX11_best_30 : decode cX11_best 30 = .ok (.ifCond .le 53, 3) := by decide +kernel
theorem dX11_best_33 : decode cX11_best 33 = .ok (.aload_n 0, 1) := by decide +kernel
theorem dX11_best_34 : decode cX11_best 34 = .ok (.getfield 51, 3) := by decide +kernel
theorem dX11_best_37 : decode cX11_best 37 = .ok (.iload 4, 2) := by decide +kernel
theorem dX11_best_39 : decode cX11_best 39 = .ok (.iconst 0, 1) := by decide +kernel
theorem dX11_best_40 : decode cX11_best 40 = .ok (.invokevirtual 319, 3) := by decide +kernel
theorem dX11_best_43 : decode cX11_best 43 = .ok (.istore 5, 2) := by decide +kernel
theorem dX11_best_45 : decode cX11_best 45 = .ok (.iload 5, 2) := by decide +kernel
theorem dX11_best_47 : decode cX11_best 47 = .ok (.iload_n 3, 1) := by decide +kernel
theorem dX11_best_48 : decode cX11_best 48 = .ok (.if_icmp .ge 9, 3) := by decide +kernel
theorem dX11_best_51 : decode cX11_best 51 = .ok (.iload 5, 2) := by decide +kernel
theorem dX11_best_53 : decode cX11_best 53 = .ok (.istore_n 3, 1) := by decide +kernel
theorem dX11_best_54 : decode cX11_best 54 = .ok (.iload 4, 2) := by decide +kernel
theorem dX11_best_56 : decode cX11_best 56 = .ok (.istore_n 2, 1) := by decide +kernel
theorem dX11_best_57 : decode cX11_best 57 = .ok (.iload 4, 2) := by decide +kernel
theorem dX11_best_59 : decode cX11_best 59 = .ok (.iconst 1, 1) := by decide +kernel
theorem dX11_best_60 : decode cX11_best 60 = .ok (.iload 5, 2) := by decide +kernel
theorem dX11_best_62 : decode cX11_best 62 = .ok (.iload_n 3, 1) := by decide +kernel
theorem dX11_best_63 : decode cX11_best 63 = .ok (.isub, 1) := by decide +kernel
theorem dX11_best_64 : decode cX11_best 64 = .ok (.iconst 1, 1) := by decide +kernel
theorem dX11_best_65 : decode cX11_best 65 = .ok (.aload_n 0, 1) := by decide +kernel
theorem dX11_best_66 : decode cX11_best 66 = .ok (.getfield 19, 3) := by decide +kernel
theorem dX11_best_69 : decode cX11_best 69 = .ok (.invokevirtual 353, 3) := by decide +kernel
theorem dX11_best_72 : decode cX11_best 72 = .ok (.invokestatic 367, 3) := by decide +kernel
theorem dX11_best_75 : decode cX11_best 75 = .ok (.idiv, 1) := by decide +kernel
theorem dX11_best_76 : decode cX11_best 76 = .ok (.iadd, 1) := by decide +kernel
theorem dX11_best_77 : decode cX11_best 77 = .ok (.iadd, 1) := by decide +kernel
theorem dX11_best_78 : decode cX11_best 78 = .ok (.istore 4, 2) := by decide +kernel
theorem dX11_best_80 : decode cX11_best 80 = .ok (.goto (-58), 3) := by decide +kernel
theorem dX11_best_83 : decode cX11_best 83 = .ok (.iload_n 1, 1) := by decide +kernel
theorem dX11_best_84 : decode cX11_best 84 = .ok (.ifCond .eq 7, 3) := by decide +kernel
theorem dX11_best_87 : decode cX11_best 87 = .ok (.iload_n 3, 1) := by decide +kernel
theorem dX11_best_88 : decode cX11_best 88 = .ok (.goto 4, 3) := by decide +kernel
theorem dX11_best_91 : decode cX11_best 91 = .ok (.iload_n 2, 1) := by decide +kernel
theorem dX11_best_92 : decode cX11_best 92 = .ok (.ireturn, 1) := by decide +kernel
theorem dX11_nearest_0 : decode cX11_nearest 0 = .ok (.aload_n 0, 1) := by decide +kernel
theorem dX11_nearest_1 : decode cX11_nearest 1 = .ok (.iload_n 1, 1) := by decide +kernel
theorem dX11_nearest_2 : decode cX11_nearest 2 = .ok (.invokevirtual 231, 3) := by decide +kernel
theorem dX11_nearest_5 : decode cX11_nearest 5 = .ok (.aload_n 0, 1) := by decide +kernel
theorem dX11_nearest_6 : decode cX11_nearest 6 = .ok (.iload_n 2, 1) := by decide +kernel
theorem dX11_nearest_7 : decode cX11_nearest 7 = .ok (.invokevirtual 316, 3) := by decide +kernel
theorem dX11_nearest_10 : decode cX11_nearest 10 = .ok (.iconst 0, 1) := by decide +kernel
theorem dX11_nearest_11 : decode cX11_nearest 11 = .ok (.istore_n 3, 1) := by decide +kernel
theorem dX11_nearest_12 : decode cX11_nearest 12 = .ok (.iconst 1, 1) := by decide +kernel
theorem dX11_nearest_13 : decode cX11_nearest 13 = .ok (.istore 4, 2) := by decide +kernel
theorem dX11_nearest_15 : decode cX11_nearest 15 = .ok (.iload 4, 2) := by decide +kernel
theorem dX11_nearest_17 : decode cX11_nearest 17 = .ok (.bipush 30, 2) := by decide +kernel
theorem dX11_nearest_19 : decode cX11_nearest 19 = .ok (.if_icmp .gt 48, 3) := by decide +kernel
theorem dX11_nearest_22 : decode cX11_nearest 22 = .ok (.aload_n 0, 1) := by decide +kernel
theorem dX11_nearest_23 : decode cX11_nearest 23 = .ok (.getfield 42, 3) := by decide +kernel
theorem dX11_nearest_26 : decode cX11_nearest 26 = .ok (.iload_n 1, 1) := by decide +kernel
theorem dX11_nearest_27 : decode cX11_nearest 27 = .ok (.iload 4, 2) := by decide +kernel
theorem dX11_nearest_29 : decode cX11_nearest 29 = .ok (.invokevirtual 237, 3) := by decide +kernel
theorem dX11_nearest_32 : decode cX11_nearest 32 = .ok (.iload_n 2, 1) := by decide +kernel
theorem dX11_nearest_33 : decode cX11_nearest 33 = .ok (.isub, 1) := by decide +kernel
theorem dX11_nearest_34 : decode cX11_nearest 34 = .ok (.invokestatic 356, 3) := by decide +kernel
theorem dX11_nearest_37 : decode cX11_nearest 37 = .ok (.istore 5, 2) := by decide +kernel
theorem dX11_nearest_39 : decode cX11_nearest 39 = .ok (.iload 5, 2) := by decide +kernel
theorem dX11_nearest_41 : decode cX11_nearest 41 = .ok (.aload_n 0, 1) := by decide +kernel
theorem dX11_nearest_42 : decode cX11_nearest 42 = .ok (.getfield 42, 3) := by decide +kernel
theorem dX11_nearest_45 : decode cX11_nearest 45 = .ok (.iload_n 1, 1) := by decide +kernel
theorem dX11_nearest_46 : decode cX11_nearest 46 = .ok (.iload_n 3, 1) := by decide +kernel
theorem dX11_nearest_47 : decode cX11_nearest 47 = .ok (.invokevirtual 237, 3) := by decide +kernel
theorem dX11_nearest_50 : decode cX11_nearest 50 = .ok (.iload_n 2, 1) := by decide +kernel
theorem dX11_nearest_51 : decode cX11_nearest 51 = .ok (.isub, 1) := by decide +kernel
theorem dX11_nearest_52 : decode cX11_nearest 52 = .ok (.invokestatic 356, 3) := by decide +kernel
theorem dX11_nearest_55 : decode cX11_nearest 55 = .ok (.if_icmp .ge 6, 3) := by decide +kernel
theorem dX11_nearest_58 : decode cX11_nearest 58 = .ok (.iload 4, 2) := by decide +kernel
theorem dX11_nearest_60 : decode cX11_nearest 60 = .ok (.istore_n 3, 1) := by decide +kernel
theorem dX11_nearest_61 : decode cX11_nearest 61 = .ok (.iinc 4 1, 3) := by decide +kernel
theorem dX11_nearest_64 : decode cX11_nearest 64 = .ok (.goto (-49), 3) := by decide +kernel
theorem dX11_nearest_67 : decode cX11_nearest 67 = .ok (.iload_n 3, 1) := by decide +kernel
theorem dX11_nearest_68 : decode cX11_nearest 68 = .ok (.ireturn, 1) := by decide +kernel
theorem dX11_cannot_0 : decode cX11_cannot 0 = .ok (.aload_n 0, 1) := by decide +kernel
theorem dX11_cannot_1 : decode cX11_cannot 1 = .ok (.iload_n 1, 1) := by decide +kernel
theorem dX11_cannot_2 : decode cX11_cannot 2 = .ok (.invokevirtual 316, 3) := by decide +kernel
theorem dX11_cannot_5 : decode cX11_cannot 5 = .ok (.iconst 0, 1) := by decide +kernel
theorem dX11_cannot_6 : decode cX11_cannot 6 = .ok (.istore_n 2, 1) := by decide +kernel
theorem dX11_cannot_7 : decode cX11_cannot 7 = .ok (.iconst 0, 1) := by decide +kernel
theorem dX11_cannot_8 : decode cX11_cannot 8 = .ok (.istore_n 3, 1) := by decide +kernel
theorem dX11_cannot_9 : decode cX11_cannot 9 = .ok (.iload_n 3, 1) := by decide +kernel
theorem dX11_cannot_10 : decode cX11_cannot 10 = .ok (.aload_n 0, 1) := by decide +kernel
theorem dX11_cannot_11 : decode cX11_cannot 11 = .ok (.getfield 19, 3) := by decide +kernel
theorem dX11_cannot_14 : decode cX11_cannot 14 = .ok (.invokevirtual 353, 3) := by decide +kernel
theorem dX11_cannot_17 : decode cX11_cannot 17 = .ok (.if_icmp .ge 28, 3) := by decide +kernel
theorem dX11_cannot_20 : decode cX11_cannot 20 = .ok (.aload_n 0, 1) := by decide +kernel
theorem dX11_cannot_21 : decode cX11_cannot 21 = .ok (.getfield 42, 3) := by decide +kernel
theorem dX11_cannot_24 : decode cX11_cannot 24 = .ok (.iload_n 3, 1) := by decide +kernel
theorem dX11_cannot_25 : decode cX11_cannot 25 = .ok (.iconst 0, 1) := by decide +kernel
theorem dX11_cannot_26 : decode cX11_cannot 26 = .ok (.invokevirtual 237, 3) := by decide +kernel
theorem dX11_cannot_29 : decode cX11_cannot 29 = .ok (.iload_n 1, 1) := by decide +kernel
theorem dX11_cannot_30 : decode cX11_cannot 30 = .ok (.if_icmp .le 9, 3) := by decide +kernel
theorem dX11_cannot_33 : decode cX11_cannot 33 = .ok (.iload_n 2, 1) := by decide +kernel
theorem dX11_cannot_34 : decode cX11_cannot 34 = .ok (.iconst 1, 1) := by decide +kernel
theorem dX11_cannot_35 : decode cX11_cannot 35 = .ok (.iload_n 3, 1) := by decide +kernel
theorem dX11_cannot_36 : decode cX11_cannot 36 = .ok (.ishl, 1) := by decide +kernel
theorem dX11_cannot_37 : decode cX11_cannot 37 = .ok (.ior, 1) := by decide +kernel
theorem dX11_cannot_38 : decode cX11_cannot 38 = .ok (.istore_n 2, 1) := by decide +kernel
theorem dX11_cannot_39 : decode cX11_cannot 39 = .ok (.iinc 3 1, 3) := by decide +kernel
theorem dX11_cannot_42 : decode cX11_cannot 42 = .ok (.goto (-33), 3) := by decide +kernel
theorem dX11_cannot_45 : decode cX11_cannot 45 = .ok (.iload_n 2, 1) := by decide +kernel
theorem dX11_cannot_46 : decode cX11_cannot 46 = .ok (.ireturn, 1) := by decide +kernel
theorem dX11_lacks_0 : decode cX11_lacks 0 = .ok (.aload_n 0, 1) := by decide +kernel
theorem dX11_lacks_1 : decode cX11_lacks 1 = .ok (.iload_n 1, 1) := by decide +kernel
theorem dX11_lacks_2 : decode cX11_lacks 2 = .ok (.invokevirtual 316, 3) := by decide +kernel
theorem dX11_lacks_5 : decode cX11_lacks 5 = .ok (.aload_n 0, 1) := by decide +kernel
theorem dX11_lacks_6 : decode cX11_lacks 6 = .ok (.getfield 42, 3) := by decide +kernel
theorem dX11_lacks_9 : decode cX11_lacks 9 = .ok (.iload_n 1, 1) := by decide +kernel
theorem dX11_lacks_10 : decode cX11_lacks 10 = .ok (.aload_n 0, 1) := by decide +kernel
theorem dX11_lacks_11 : decode cX11_lacks 11 = .ok (.getfield 19, 3) := by decide +kernel
theorem dX11_lacks_14 : decode cX11_lacks 14 = .ok (.getfield 268, 3) := by decide +kernel
theorem dX11_lacks_17 : decode cX11_lacks 17 = .ok (.invokevirtual 370, 3) := by decide +kernel
theorem dX11_lacks_20 : decode cX11_lacks 20 = .ok (.ireturn, 1) := by decide +kernel
theorem dX11_squeeze_0 : decode cX11_squeeze 0 = .ok (.aload_n 0, 1) := by decide +kernel
theorem dX11_squeeze_1 : decode cX11_squeeze 1 = .ok (.iload_n 1, 1) := by decide +kernel
theorem dX11_squeeze_2 : decode cX11_squeeze 2 = .ok (.invokevirtual 316, 3) := by decide +kernel
theorem dX11_squeeze_5 : decode cX11_squeeze 5 = .ok (.aload_n 0, 1) := by decide +kernel
theorem dX11_squeeze_6 : decode cX11_squeeze 6 = .ok (.getfield 60, 3) := by decide +kernel
theorem dX11_squeeze_9 : decode cX11_squeeze 9 = .ok (.aload_n 0, 1) := by decide +kernel
theorem dX11_squeeze_10 : decode cX11_squeeze 10 = .ok (.getfield 42, 3) := by decide +kernel
theorem dX11_squeeze_13 : decode cX11_squeeze 13 = .ok (.iload_n 1, 1) := by decide +kernel
theorem dX11_squeeze_14 : decode cX11_squeeze 14 = .ok (.aload_n 0, 1) := by decide +kernel
theorem dX11_squeeze_15 : decode cX11_squeeze 15 = .ok (.getfield 19, 3) := by decide +kernel
theorem dX11_squeeze_18 : decode cX11_squeeze 18 = .ok (.getfield 268, 3) := by decide +kernel
theorem dX11_squeeze_21 : decode cX11_squeeze 21 = .ok (.invokevirtual 370, 3) := by decide +kernel
theorem dX11_squeeze_24 : decode cX11_squeeze 24 = .ok (.invokevirtual 373, 3) := by decide +kernel
theorem dX11_squeeze_27 : decode cX11_squeeze 27 = .ok (.istore_n 3, 1) := by decide +kernel
theorem dX11_squeeze_28 : decode cX11_squeeze 28 = .ok (.iload_n 3, 1) := by decide +kernel
theorem dX11_squeeze_29 : decode cX11_squeeze 29 = .ok (.iconst (-1), 1) := by decide +kernel
theorem dX11_squeeze_30 : decode cX11_squeeze 30 = .ok (.if_icmp .eq 7, 3) := by decide +kernel
theorem dX11_squeeze_33 : decode cX11_squeeze 33 = .ok (.iload_n 2, 1) := by decide +kernel
theorem dX11_squeeze_34 : decode cX11_squeeze 34 = .ok (.ifCond .ne 7, 3) := by decide +kernel
theorem dX11_squeeze_37 : decode cX11_squeeze 37 = .ok (.iload_n 3, 1) := by decide +kernel
theorem dX11_squeeze_38 : decode cX11_squeeze 38 = .ok (.goto 10, 3) := by decide +kernel
theorem dX11_squeeze_41 : decode cX11_squeeze 41 = .ok (.aload_n 0, 1) := by decide +kernel
theorem dX11_squeeze_42 : decode cX11_squeeze 42 = .ok (.getfield 60, 3) := by decide +kernel
theorem dX11_squeeze_45 : decode cX11_squeeze 45 = .ok (.invokevirtual 376, 3) := by decide +kernel
theorem dX11_squeeze_48 : decode cX11_squeeze 48 = .ok (.ireturn, 1) := by decide +kernel
theorem dX11_dropped_0 : decode cX11_dropped 0 = .ok (.aload_n 0, 1) := by decide +kernel
theorem dX11_dropped_1 : decode cX11_dropped 1 = .ok (.iload_n 1, 1) := by decide +kernel
theorem dX11_dropped_2 : decode cX11_dropped 2 = .ok (.invokevirtual 316, 3) := by decide +kernel
theorem dX11_dropped_5 : decode cX11_dropped 5 = .ok (.iconst 0, 1) := by decide +kernel
theorem dX11_dropped_6 : decode cX11_dropped 6 = .ok (.istore_n 2, 1) := by decide +kernel
theorem dX11_dropped_7 : decode cX11_dropped 7 = .ok (.iload_n 2, 1) := by decide +kernel
theorem dX11_dropped_8 : decode cX11_dropped 8 = .ok (.aload_n 0, 1) := by decide +kernel
theorem dX11_dropped_9 : decode cX11_dropped 9 = .ok (.getfield 19, 3) := by decide +kernel
theorem dX11_dropped_12 : decode cX11_dropped 12 = .ok (.getfield 268, 3) := by decide +kernel
theorem dX11_dropped_15 : decode cX11_dropped 15 = .ok (.if_icmp .ge 31, 3) := by decide +kernel
theorem dX11_dropped_18 : decode cX11_dropped 18 = .ok (.aload_n 0, 1) := by decide +kernel
theorem dX11_dropped_19 : decode cX11_dropped 19 = .ok (.getfield 42, 3) := by decide +kernel
theorem dX11_dropped_22 : decode cX11_dropped 22 = .ok (.iload_n 1, 1) := by decide +kernel
theorem dX11_dropped_23 : decode cX11_dropped 23 = .ok (.aload_n 0, 1) := by decide +kernel
theorem dX11_dropped_24 : decode cX11_dropped 24 = .ok (.getfield 19, 3) := by decide +kernel
theorem dX11_dropped_27 : decode cX11_dropped 27 = .ok (.getfield 268, 3) := by decide +kernel
theorem dX11_dropped_30 : decode cX11_dropped 30 = .ok (.iload_n 2, 1) := by decide +kernel
theorem dX11_dropped_31 : decode cX11_dropped 31 = .ok (.isub, 1) := by decide +kernel
theorem dX11_dropped_32 : decode cX11_dropped 32 = .ok (.invokevirtual 370, 3) := by decide +kernel
theorem dX11_dropped_35 : decode cX11_dropped 35 = .ok (.ifCond .gt 5, 3) := by decide +kernel
theorem dX11_dropped_38 : decode cX11_dropped 38 = .ok (.iload_n 2, 1) := by decide +kernel
theorem dX11_dropped_39 : decode cX11_dropped 39 = .ok (.ireturn, 1) := by decide +kernel
theorem dX11_dropped_40 : decode cX11_dropped 40 = .ok (.iinc 2 1, 3) := by decide +kernel
theorem dX11_dropped_43 : decode cX11_dropped 43 = .ok (.goto (-36), 3) := by decide +kernel
theorem dX11_dropped_46 : decode cX11_dropped 46 = .ok (.iconst (-1), 1) := by decide +kernel
theorem dX11_dropped_47 : decode cX11_dropped 47 = .ok (.ireturn, 1) := by decide +kernel
theorem dX11_inch_0 : decode cX11_inch 0 = .ok (.aload_n 0, 1) := by decide +kernel
theorem dX11_inch_1 : decode cX11_inch 1 = .ok (.iload_n 1, 1) := by decide +kernel
theorem dX11_inch_2 : decode cX11_inch 2 = .ok (.invokevirtual 316, 3) := by decide +kernel
theorem dX11_inch_5 : decode cX11_inch 5 = .ok (.aload_n 0, 1) := by decide +kernel
theorem dX11_inch_6 : decode cX11_inch 6 = .ok (.getfield 51, 3) := by decide +kernel
theorem dX11_inch_9 : decode cX11_inch 9 = .ok (.iload_n 1, 1) := by decide +kernel
theorem dX11_inch_10 : decode cX11_inch 10 = .ok (.iconst 0, 1) := by decide +kernel
theorem dX11_inch_11 : decode cX11_inch 11 = .ok (.invokevirtual 319, 3) := by decide +kernel
theorem dX11_inch_14 : decode cX11_inch 14 = .ok (.istore_n 2, 1) := by decide +kernel
theorem dX11_inch_15 : decode cX11_inch 15 = .ok (.aload_n 0, 1) := by decide +kernel
theorem dX11_inch_16 : decode cX11_inch 16 = .ok (.getfield 51, 3) := by decide +kernel
theorem dX11_inch_19 : decode cX11_inch 19 = .ok (.iload_n 1, 1) := by decide +kernel
theorem dX11_inch_20 : decode cX11_inch 20 = .ok (.bipush 12, 2) := by decide +kernel
theorem dX11_inch_22 : decode cX11_inch 22 = .ok (.invokevirtual 319, 3) := by decide +kernel
theorem dX11_inch_25 : decode cX11_inch 25 = .ok (.istore_n 3, 1) := by decide +kernel
theorem dX11_inch_26 : decode cX11_inch 26 = .ok (.iload_n 2, 1) := by decide +kernel
theorem dX11_inch_27 : decode cX11_inch 27 = .ok (.iconst (-1), 1) := by decide +kernel
theorem dX11_inch_28 : decode cX11_inch 28 = .ok (.if_icmp .eq 8, 3) := by decide +kernel
theorem dX11_inch_31 : decode cX11_inch 31 = .ok (.iload_n 3, 1) := by decide +kernel
theorem dX11_inch_32 : decode cX11_inch 32 = .ok (.iconst (-1), 1) := by decide +kernel
theorem dX11_inch_33 : decode cX11_inch 33 = .ok (.if_icmp .ne 9, 3) := by decide +kernel
theorem dX11_inch_36 : decode cX11_inch 36 = .ok (.sipush (-9999), 3) := by decide +kernel
theorem dX11_inch_39 : decode cX11_inch 39 = .ok (.goto 6, 3) := by decide +kernel
theorem dX11_inch_42 : decode cX11_inch 42 = .ok (.iload_n 2, 1) := by decide +kernel
theorem dX11_inch_43 : decode cX11_inch 43 = .ok (.iload_n 3, 1) := by decide +kernel
theorem dX11_inch_44 : decode cX11_inch 44 = .ok (.isub, 1) := by decide +kernel
theorem dX11_inch_45 : decode cX11_inch 45 = .ok (.ireturn, 1) := by decide +kernel
theorem dX11_middle_0 : decode cX11_middle 0 = .ok (.aload_n 0, 1) := by decide +kernel
theorem dX11_middle_1 : decode cX11_middle 1 = .ok (.getfield 42, 3) := by decide +kernel
theorem dX11_middle_4 : decode cX11_middle 4 = .ok (.invokevirtual 379, 3) := by decide +kernel
theorem dX11_middle_7 : decode cX11_middle 7 = .ok (.istore_n 2, 1) := by decide +kernel
theorem dX11_middle_8 : decode cX11_middle 8 = .ok (.iload_n 1, 1) := by decide +kernel
theorem dX11_middle_9 : decode cX11_middle 9 = .ok (.ifCond .eq 17, 3) := by decide +kernel
theorem dX11_middle_12 : decode cX11_middle 12 = .ok (.iload_n 2, 1) := by decide +kernel
theorem dX11_middle_13 : decode cX11_middle 13 = .ok (.aload_n 0, 1) := by decide +kernel
theorem dX11_middle_14 : decode cX11_middle 14 = .ok (.getfield 19, 3) := by decide +kernel
theorem dX11_middle_17 : decode cX11_middle 17 = .ok (.getfield 271, 3) := by decide +kernel
theorem dX11_middle_20 : decode cX11_middle 20 = .ok (.iconst 2, 1) := by decide +kernel
theorem dX11_middle_21 : decode cX11_middle 21 = .ok (.idiv, 1) := by decide +kernel
theorem dX11_middle_22 : decode cX11_middle 22 = .ok (.isub, 1) := by decide +kernel
theorem dX11_middle_23 : decode cX11_middle 23 = .ok (.goto 4, 3) := by decide +kernel
theorem dX11_middle_26 : decode cX11_middle 26 = .ok (.iload_n 2, 1) := by decide +kernel
theorem dX11_middle_27 : decode cX11_middle 27 = .ok (.ireturn, 1) := by decide +kernel
theorem dX11_read_0 : decode cX11_read 0 = .ok (.aload_n 0, 1) := by decide +kernel
theorem dX11_read_1 : decode cX11_read 1 = .ok (.iload_n 1, 1) := by decide +kernel
theorem dX11_read_2 : decode cX11_read 2 = .ok (.invokevirtual 256, 3) := by decide +kernel
theorem dX11_read_5 : decode cX11_read 5 = .ok (.aload_n 0, 1) := by decide +kernel
theorem dX11_read_6 : decode cX11_read 6 = .ok (.iload_n 2, 1) := by decide +kernel
theorem dX11_read_7 : decode cX11_read 7 = .ok (.invokevirtual 259, 3) := by decide +kernel
theorem dX11_read_10 : decode cX11_read 10 = .ok (.aload_n 0, 1) := by decide +kernel
theorem dX11_read_11 : decode cX11_read 11 = .ok (.getfield 42, 3) := by decide +kernel
theorem dX11_read_14 : decode cX11_read 14 = .ok (.iload_n 1, 1) := by decide +kernel
theorem dX11_read_15 : decode cX11_read 15 = .ok (.iload_n 2, 1) := by decide +kernel
theorem dX11_read_16 : decode cX11_read 16 = .ok (.aload_n 0, 1) := by decide +kernel
theorem dX11_read_17 : decode cX11_read 17 = .ok (.getfield 42, 3) := by decide +kernel
theorem dX11_read_20 : decode cX11_read 20 = .ok (.aload_n 0, 1) := by decide +kernel
theorem dX11_read_21 : decode cX11_read 21 = .ok (.getfield 33, 3) := by decide +kernel
theorem dX11_read_24 : decode cX11_read 24 = .ok (.getfield 240, 3) := by decide +kernel
theorem dX11_read_27 : decode cX11_read 27 = .ok (.invokevirtual 382, 3) := by decide +kernel
theorem dX11_read_30 : decode cX11_read 30 = .ok (.invokevirtual 385, 3) := by decide +kernel
theorem dX11_read_33 : decode cX11_read 33 = .ok (.ireturn, 1) := by decide +kernel
theorem dX11_far_0 : decode cX11_far 0 = .ok (.aload_n 0, 1) := by decide +kernel
theorem dX11_far_1 : decode cX11_far 1 = .ok (.iload_n 1, 1) := by decide +kernel
theorem dX11_far_2 : decode cX11_far 2 = .ok (.invokevirtual 259, 3) := by decide +kernel
theorem dX11_far_5 : decode cX11_far 5 = .ok (.aload_n 0, 1) := by decide +kernel
theorem dX11_far_6 : decode cX11_far 6 = .ok (.getfield 42, 3) := by decide +kernel
theorem dX11_far_9 : decode cX11_far 9 = .ok (.iload_n 1, 1) := by decide +kernel
theorem dX11_far_10 : decode cX11_far 10 = .ok (.invokevirtual 389, 3) := by decide +kernel
theorem dX11_far_13 : decode cX11_far 13 = .ok (.ireturn, 1) := by decide +kernel
theorem dX11_runs_0 : decode cX11_runs 0 = .ok (.aload_n 0, 1) := by decide +kernel
theorem dX11_runs_1 : decode cX11_runs 1 = .ok (.iload_n 1, 1) := by decide +kernel
theorem dX11_runs_2 : decode cX11_runs 2 = .ok (.invokevirtual 256, 3) := by decide +kernel
theorem dX11_runs_5 : decode cX11_runs 5 = .ok (.aload_n 0, 1) := by decide +kernel
theorem dX11_runs_6 : decode cX11_runs 6 = .ok (.iload_n 2, 1) := by decide +kernel
theorem dX11_runs_7 : decode cX11_runs 7 = .ok (.invokevirtual 259, 3) := by decide +kernel
theorem dX11_runs_10 : decode cX11_runs 10 = .ok (.aload_n 0, 1) := by decide +kernel
theorem dX11_runs_11 : decode cX11_runs 11 = .ok (.getfield 42, 3) := by decide +kernel
theorem dX11_runs_14 : decode cX11_runs 14 = .ok (.iload_n 1, 1) := by decide +kernel
theorem dX11_runs_15 : decode cX11_runs 15 = .ok (.iload_n 2, 1) := by decide +kernel
theorem dX11_runs_16 : decode cX11_runs 16 = .ok (.invokevirtual 392, 3) := by decide +kernel
theorem dX11_runs_19 : decode cX11_runs 19 = .ok (.istore_n 3, 1) := by decide +kernel
theorem dX11_runs_20 : decode cX11_runs 20 = .ok (.iconst 0, 1) := by decide +kernel
theorem dX11_runs_21 : decode cX11_runs 21 = .ok (.istore 4, 2) := by decide +kernel
theorem dX11_runs_23 : decode cX11_runs 23 = .ok (.iconst 0, 1) := by decide +kernel
theorem dX11_runs_24 : decode cX11_runs 24 = .ok (.istore 5, 2) := by decide +kernel
theorem dX11_runs_26 : decode cX11_runs 26 = .ok (.iload 5, 2) := by decide +kernel
theorem dX11_runs_28 : decode cX11_runs 28 = .ok (.aload_n 0, 1) := by decide +kernel
theorem dX11_runs_29 : decode cX11_runs 29 = .ok (.getfield 19, 3) := by decide +kernel
theorem dX11_runs_32 : decode cX11_runs 32 = .ok (.invokevirtual 353, 3) := by decide +kernel
theorem dX11_runs_35 : decode cX11_runs 35 = .ok (.if_icmp .ge 50, 3) := by decide +kernel
theorem dX11_runs_38 : decode cX11_runs 38 = .ok (.iload_n 3, 1) := by decide +kernel
theorem dX11_runs_39 : decode cX11_runs 39 = .ok (.aload_n 0, 1) := by decide +kernel
theorem dX11_runs_40 : decode cX11_runs 40 = .ok (.getfield 42, 3) := by decide +kernel
theorem dX11_runs_43 : decode cX11_runs 43 = .ok (.iload 5, 2) := by decide +kernel
theorem dX11_runs_45 : decode cX11_runs 45 = .ok (.aload_n 0, 1) := by decide +kernel
theorem dX11_runs_46 : decode cX11_runs 46 = .ok (.getfield 33, 3) := by decide +kernel
theorem dX11_runs_49 : decode cX11_runs 49 = .ok (.getfield 234, 3) := by decide +kernel
theorem dX11_runs_52 : decode cX11_runs 52 = .ok (.iload 5, 2) := by decide +kernel
theorem dX11_runs_54 : decode cX11_runs 54 = .ok (.iaload, 1) := by decide +kernel
theorem dX11_runs_55 : decode cX11_runs 55 = .ok (.aload_n 0, 1) := by decide +kernel
theorem dX11_runs_56 : decode cX11_runs 56 = .ok (.getfield 33, 3) := by decide +kernel
theorem dX11_runs_59 : decode cX11_runs 59 = .ok (.getfield 240, 3) := by decide +kernel
theorem dX11_runs_62 : decode cX11_runs 62 = .ok (.invokevirtual 243, 3) := by decide +kernel
theorem dX11_runs_65 : decode cX11_runs 65 = .ok (.imul, 1) := by decide +kernel
theorem dX11_runs_66 : decode cX11_runs 66 = .ok (.iload_n 1, 1) := by decide +kernel
theorem dX11_runs_67 : decode cX11_runs 67 = .ok (.if_icmp .ge 12, 3) := by decide +kernel
theorem dX11_runs_70 : decode cX11_runs 70 = .ok (.iload 4, 2) := by decide +kernel
theorem dX11_runs_72 : decode cX11_runs 72 = .ok (.iconst 1, 1) := by decide +kernel
theorem dX11_runs_73 : decode cX11_runs 73 = .ok (.iload 5, 2) := by decide +kernel
theorem dX11_runs_75 : decode cX11_runs 75 = .ok (.ishl, 1) := by decide +kernel
theorem dX11_runs_76 : decode cX11_runs 76 = .ok (.ior, 1) := by decide +kernel
theorem dX11_runs_77 : decode cX11_runs 77 = .ok (.istore 4, 2) := by decide +kernel
theorem dX11_runs_79 : decode cX11_runs 79 = .ok (.iinc 5 1, 3) := by decide +kernel
theorem dX11_runs_82 : decode cX11_runs 82 = .ok (.goto (-56), 3) := by decide +kernel
theorem dX11_runs_85 : decode cX11_runs 85 = .ok (.iload 4, 2) := by decide +kernel
theorem dX11_runs_87 : decode cX11_runs 87 = .ok (.ireturn, 1) := by decide +kernel
theorem dX11_bears_0 : decode cX11_bears 0 = .ok (.aload_n 0, 1) := by decide +kernel
theorem dX11_bears_1 : decode cX11_bears 1 = .ok (.iload_n 1, 1) := by decide +kernel
theorem dX11_bears_2 : decode cX11_bears 2 = .ok (.invokevirtual 256, 3) := by decide +kernel
theorem dX11_bears_5 : decode cX11_bears 5 = .ok (.aload_n 0, 1) := by decide +kernel
theorem dX11_bears_6 : decode cX11_bears 6 = .ok (.iload_n 2, 1) := by decide +kernel
theorem dX11_bears_7 : decode cX11_bears 7 = .ok (.invokevirtual 259, 3) := by decide +kernel
theorem dX11_bears_10 : decode cX11_bears 10 = .ok (.bipush 9, 2) := by decide +kernel
theorem dX11_bears_12 : decode cX11_bears 12 = .ok (.istore_n 3, 1) := by decide +kernel
theorem dX11_bears_13 : decode cX11_bears 13 = .ok (.iload_n 3, 1) := by decide +kernel
theorem dX11_bears_14 : decode cX11_bears 14 = .ok (.ifCond .lt 42, 3) := by decide +kernel
theorem dX11_bears_17 : decode cX11_bears 17 = .ok (.aload_n 0, 1) := by decide +kernel
theorem dX11_bears_18 : decode cX11_bears 18 = .ok (.getfield 42, 3) := by decide +kernel
theorem dX11_bears_21 : decode cX11_bears 21 = .ok (.iload_n 3, 1) := by decide +kernel
theorem dX11_bears_22 : decode cX11_bears 22 = .ok (.invokevirtual 361, 3) := by decide +kernel
theorem dX11_bears_25 : decode cX11_bears 25 = .ok (.ifCond .eq 25, 3) := by decide +kernel
theorem dX11_bears_28 : decode cX11_bears 28 = .ok (.aload_n 0, 1) := by decide +kernel
theorem dX11_bears_29 : decode cX11_bears 29 = .ok (.getfield 42, 3) := by decide +kernel
theorem dX11_bears_32 : decode cX11_bears 32 = .ok (.iload_n 1, 1) := by decide +kernel
theorem dX11_bears_33 : decode cX11_bears 33 = .ok (.iload_n 2, 1) := by decide +kernel
theorem dX11_bears_34 : decode cX11_bears 34 = .ok (.aload_n 0, 1) := by decide +kernel
theorem dX11_bears_35 : decode cX11_bears 35 = .ok (.getfield 42, 3) := by decide +kernel
theorem dX11_bears_38 : decode cX11_bears 38 = .ok (.iload_n 3, 1) := by decide +kernel
theorem dX11_bears_39 : decode cX11_bears 39 = .ok (.invokevirtual 382, 3) := by decide +kernel
theorem dX11_bears_42 : decode cX11_bears 42 = .ok (.invokevirtual 385, 3) := by decide +kernel
theorem dX11_bears_45 : decode cX11_bears 45 = .ok (.ifCond .eq 5, 3) := by decide +kernel
theorem dX11_bears_48 : decode cX11_bears 48 = .ok (.iload_n 3, 1) := by decide +kernel
theorem dX11_bears_49 : decode cX11_bears 49 = .ok (.ireturn, 1) := by decide +kernel
theorem dX11_bears_50 : decode cX11_bears 50 = .ok (.iinc 3 (-1), 3) := by decide +kernel
theorem dX11_bears_53 : decode cX11_bears 53 = .ok (.goto (-40), 3) := by decide +kernel
theorem dX11_bears_56 : decode cX11_bears 56 = .ok (.iconst (-1), 1) := by decide +kernel
theorem dX11_bears_57 : decode cX11_bears 57 = .ok (.ireturn, 1) := by decide +kernel
theorem dX11_lamp_0 : decode cX11_lamp 0 = .ok (.iconst 0, 1) := by decide +kernel
theorem dX11_lamp_1 : decode cX11_lamp 1 = .ok (.istore_n 1, 1) := by decide +kernel
theorem dX11_lamp_2 : decode cX11_lamp 2 = .ok (.iconst (-1), 1) := by decide +kernel
theorem dX11_lamp_3 : decode cX11_lamp 3 = .ok (.istore_n 2, 1) := by decide +kernel
theorem dX11_lamp_4 : decode cX11_lamp 4 = .ok (.iconst 0, 1) := by decide +kernel
theorem dX11_lamp_5 : decode cX11_lamp 5 = .ok (.istore_n 3, 1) := by decide +kernel
theorem dX11_lamp_6 : decode cX11_lamp 6 = .ok (.iload_n 3, 1) := by decide +kernel
theorem dX11_lamp_7 : decode cX11_lamp 7 = .ok (.bipush 9, 2) := by decide +kernel
theorem dX11_lamp_9 : decode cX11_lamp 9 = .ok (.if_icmp .gt 30, 3) := by decide +kernel
theorem dX11_lamp_12 : decode cX11_lamp 12 = .ok (.aload_n 0, 1) := by decide +kernel
theorem dX11_lamp_13 : decode cX11_lamp 13 = .ok (.getfield 42, 3) := by decide +kernel
theorem dX11_lamp_16 : decode cX11_lamp 16 = .ok (.iload_n 3, 1) := by decide +kernel
theorem dX11_lamp_17 : decode cX11_lamp 17 = .ok (.invokevirtual 389, 3) := by decide +kernel
theorem dX11_lamp_20 : decode cX11_lamp 20 = .ok (.istore 4, 2) := by decide +kernel
theorem dX11_lamp_22 : decode cX11_lamp 22 = .ok (.iload 4, 2) := by decide +kernel
theorem dX11_lamp_24 : decode cX11_lamp 24 = .ok (.iload_n 2, 1) := by decide +kernel
theorem dX11_lamp_25 : decode cX11_lamp 25 = .ok (.if_icmp .le 8, 3) := by decide +kernel
theorem dX11_lamp_28 : decode cX11_lamp 28 = .ok (.iload 4, 2) := by decide +kernel
theorem dX11_lamp_30 : decode cX11_lamp 30 = .ok (.istore_n 2, 1) := by decide +kernel
theorem dX11_lamp_31 : decode cX11_lamp 31 = .ok (.iload_n 3, 1) := by decide +kernel
theorem dX11_lamp_32 : decode cX11_lamp 32 = .ok (.istore_n 1, 1) := by decide +kernel
theorem dX11_lamp_33 : decode cX11_lamp 33 = .ok (.iinc 3 1, 3) := by decide +kernel
theorem dX11_lamp_36 : decode cX11_lamp 36 = .ok (.goto (-30), 3) := by decide +kernel
theorem dX11_lamp_39 : decode cX11_lamp 39 = .ok (.iload_n 1, 1) := by decide +kernel
theorem dX11_lamp_40 : decode cX11_lamp 40 = .ok (.ireturn, 1) := by decide +kernel
theorem dX11_aslant_0 : decode cX11_aslant 0 = .ok (.iload_n 1, 1) := by decide +kernel
theorem dX11_aslant_1 : decode cX11_aslant 1 = .ok (.ifCond .lt 9, 3) := by decide +kernel
theorem dX11_aslant_4 : decode cX11_aslant 4 = .ok (.iload_n 1, 1) := by decide +kernel
theorem dX11_aslant_5 : decode cX11_aslant 5 = .ok (.bipush 9, 2) := by decide +kernel
theorem dX11_aslant_7 : decode cX11_aslant 7 = .ok (.if_icmp .le 14, 3) := by decide +kernel
theorem dX11_aslant_10 : decode cX11_aslant 10 = .ok (.new 130, 3) := by decide +kernel
theorem dX11_aslant_13 : decode cX11_aslant 13 = .ok (.dup, 1) := by decide +kernel
theorem dX11_aslant_14 : decode cX11_aslant 14 = .ok (.ldc_w 395, 3) := by decide +kernel
theorem dX11_aslant_17 : decode cX11_aslant 17 = .ok (.invokespecial 134, 3) := by decide +kernel
theorem dX11_aslant_20 : decode cX11_aslant 20 = .ok (.athrow, 1) := by decide +kernel
theorem dX11_aslant_21 : decode cX11_aslant 21 = .ok (.aload_n 0, 1) := by decide +kernel
theorem dX11_aslant_22 : decode cX11_aslant 22 = .ok (.getfield 42, 3) := by decide +kernel
theorem dX11_aslant_25 : decode cX11_aslant 25 = .ok (.aload_n 0, 1) := by decide +kernel
theorem dX11_aslant_26 : decode cX11_aslant 26 = .ok (.getfield 33, 3) := by decide +kernel
theorem dX11_aslant_29 : decode cX11_aslant 29 = .ok (.getfield 234, 3) := by decide +kernel
theorem dX11_aslant_32 : decode cX11_aslant 32 = .ok (.iload_n 1, 1) := by decide +kernel
theorem dX11_aslant_33 : decode cX11_aslant 33 = .ok (.invokevirtual 349, 3) := by decide +kernel
theorem dX11_aslant_36 : decode cX11_aslant 36 = .ok (.ireturn, 1) := by decide +kernel
theorem dX11_from_0 : decode cX11_from 0 = .ok (.iconst 0, 1) := by decide +kernel
theorem dX11_from_1 : decode cX11_from 1 = .ok (.istore_n 1, 1) := by decide +kernel
theorem dX11_from_2 : decode cX11_from 2 = .ok (.aload_n 0, 1) := by decide +kernel
theorem dX11_from_3 : decode cX11_from 3 = .ok (.getfield 42, 3) := by decide +kernel
theorem dX11_from_6 : decode cX11_from 6 = .ok (.aload_n 0, 1) := by decide +kernel
theorem dX11_from_7 : decode cX11_from 7 = .ok (.getfield 33, 3) := by decide +kernel
theorem dX11_from_10 : decode cX11_from 10 = .ok (.getfield 234, 3) := by decide +kernel
theorem dX11_from_13 : decode cX11_from 13 = .ok (.iconst 0, 1) := by decide +kernel
theorem dX11_from_14 : decode cX11_from 14 = .ok (.invokevirtual 349, 3) := by decide +kernel
theorem dX11_from_17 : decode cX11_from 17 = .ok (.istore_n 2, 1) := by decide +kernel
theorem dX11_from_18 : decode cX11_from 18 = .ok (.iconst 1, 1) := by decide +kernel
theorem dX11_from_19 : decode cX11_from 19 = .ok (.istore_n 3, 1) := by decide +kernel
theorem dX11_from_20 : decode cX11_from 20 = .ok (.iload_n 3, 1) := by decide +kernel
theorem dX11_from_21 : decode cX11_from 21 = .ok (.bipush 9, 2) := by decide +kernel
theorem dX11_from_23 : decode cX11_from 23 = .ok (.if_icmp .gt 37, 3) := by decide +kernel
theorem dX11_from_26 : decode cX11_from 26 = .ok (.aload_n 0, 1) := by decide +kernel
theorem dX11_from_27 : decode cX11_from 27 = .ok (.getfield 42, 3) := by decide +kernel
theorem dX11_from_30 : decode cX11_from 30 = .ok (.aload_n 0, 1) := by decide +kernel
theorem dX11_from_31 : decode cX11_from 31 = .ok (.getfield 33, 3) := by decide +kernel
theorem dX11_from_34 : decode cX11_from 34 = .ok (.getfield 234, 3) := by decide +kernel
theorem dX11_from_37 : decode cX11_from 37 = .ok (.iload_n 3, 1) := by decide +kernel
theorem dX11_from_38 : decode cX11_from 38 = .ok (.invokevirtual 349, 3) := by decide +kernel
theorem dX11_from_41 : decode cX11_from 41 = .ok (.istore 4, 2) := by decide +kernel
theorem dX11_from_43 : decode cX11_from 43 = .ok (.iload 4, 2) := by decide +kernel
theorem dX11_from_45 : decode cX11_from 45 = .ok (.iload_n 2, 1) := by decide +kernel
theorem dX11_from_46 : decode cX11_from 46 = .ok (.if_icmp .ge 8, 3) := by decide +kernel
theorem dX11_from_49 : decode cX11_from 49 = .ok (.iload 4, 2) := by decide +kernel
theorem dX11_from_51 : decode cX11_from 51 = .ok (.istore_n 2, 1) := by decide +kernel
theorem dX11_from_52 : decode cX11_from 52 = .ok (.iload_n 3, 1) := by decide +kernel
theorem dX11_from_53 : decode cX11_from 53 = .ok (.istore_n 1, 1) := by decide +kernel
theorem dX11_from_54 : decode cX11_from 54 = .ok (.iinc 3 1, 3) := by decide +kernel
theorem dX11_from_57 : decode cX11_from 57 = .ok (.goto (-37), 3) := by decide +kernel
theorem dX11_from_60 : decode cX11_from 60 = .ok (.iload_n 1, 1) := by decide +kernel
theorem dX11_from_61 : decode cX11_from 61 = .ok (.ireturn, 1) := by decide +kernel
theorem dX11_ends_0 : decode cX11_ends 0 = .ok (.aload_n 0, 1) := by decide +kernel
theorem dX11_ends_1 : decode cX11_ends 1 = .ok (.iload_n 1, 1) := by decide +kernel
theorem dX11_ends_2 : decode cX11_ends 2 = .ok (.invokevirtual 305, 3) := by decide +kernel
theorem dX11_ends_5 : decode cX11_ends 5 = .ok (.aload_n 0, 1) := by decide +kernel
theorem dX11_ends_6 : decode cX11_ends 6 = .ok (.getfield 19, 3) := by decide +kernel
theorem dX11_ends_9 : decode cX11_ends 9 = .ok (.getfield 268, 3) := by decide +kernel
theorem dX11_ends_12 : decode cX11_ends 12 = .ok (.iconst 2, 1) := by decide +kernel
theorem dX11_ends_13 : decode cX11_ends 13 = .ok (.if_icmp .ge 7, 3) := by decide +kernel
theorem dX11_ends_16 : decode cX11_ends 16 = .ok (.sipush (-999), 3) := by decide +kernel
theorem dX11_ends_19 : decode cX11_ends 19 = .ok (.ireturn, 1) := by decide +kernel
theorem dX11_ends_20 : decode cX11_ends 20 = .ok (.aload_n 0, 1) := by decide +kernel
theorem dX11_ends_21 : decode cX11_ends 21 = .ok (.getfield 42, 3) := by decide +kernel
theorem dX11_ends_24 : decode cX11_ends 24 = .ok (.iconst 0, 1) := by decide +kernel
theorem dX11_ends_25 : decode cX11_ends 25 = .ok (.invokevirtual 397, 3) := by decide +kernel
theorem dX11_ends_28 : decode cX11_ends 28 = .ok (.iload_n 1, 1) := by decide +kernel
theorem dX11_ends_29 : decode cX11_ends 29 = .ok (.aload_n 0, 1) := by decide +kernel
theorem dX11_ends_30 : decode cX11_ends 30 = .ok (.getfield 19, 3) := by decide +kernel
theorem dX11_ends_33 : decode cX11_ends 33 = .ok (.getfield 268, 3) := by decide +kernel
theorem dX11_ends_36 : decode cX11_ends 36 = .ok (.iconst 2, 1) := by decide +kernel
theorem dX11_ends_37 : decode cX11_ends 37 = .ok (.isub, 1) := by decide +kernel
theorem dX11_ends_38 : decode cX11_ends 38 = .ok (.imul, 1) := by decide +kernel
theorem dX11_ends_39 : decode cX11_ends 39 = .ok (.isub, 1) := by decide +kernel
theorem dX11_ends_40 : decode cX11_ends 40 = .ok (.ireturn, 1) := by decide +kernel
theorem dX11_order_0 : decode cX11_order 0 = .ok (.aload_n 0, 1) := by decide +kernel
theorem dX11_order_1 : decode cX11_order 1 = .ok (.getfield 33, 3) := by decide +kernel
theorem dX11_order_4 : decode cX11_order 4 = .ok (.iload_n 1, 1) := by decide +kernel
theorem dX11_order_5 : decode cX11_order 5 = .ok (.aload_n 0, 1) := by decide +kernel
theorem dX11_order_6 : decode cX11_order 6 = .ok (.getfield 19, 3) := by decide +kernel
theorem dX11_order_9 : decode cX11_order 9 = .ok (.getfield 268, 3) := by decide +kernel
theorem dX11_order_12 : decode cX11_order 12 = .ok (.invokevirtual 400, 3) := by decide +kernel
theorem dX11_order_15 : decode cX11_order 15 = .ok (.ireturn, 1) := by decide +kernel
theorem dX11_brush_0 : decode cX11_brush 0 = .ok (.aload_n 0, 1) := by decide +kernel
theorem dX11_brush_1 : decode cX11_brush 1 = .ok (.getfield 33, 3) := by decide +kernel
theorem dX11_brush_4 : decode cX11_brush 4 = .ok (.aload_n 0, 1) := by decide +kernel
theorem dX11_brush_5 : decode cX11_brush 5 = .ok (.getfield 19, 3) := by decide +kernel
theorem dX11_brush_8 : decode cX11_brush 8 = .ok (.getfield 268, 3) := by decide +kernel
theorem dX11_brush_11 : decode cX11_brush 11 = .ok (.invokevirtual 403, 3) := by decide +kernel
theorem dX11_brush_14 : decode cX11_brush 14 = .ok (.ireturn, 1) := by decide +kernel
theorem dX11_wrote_0 : decode cX11_wrote 0 = .ok (.aload_n 0, 1) := by decide +kernel
theorem dX11_wrote_1 : decode cX11_wrote 1 = .ok (.invokevirtual 406, 3) := by decide +kernel
theorem dX11_wrote_4 : decode cX11_wrote 4 = .ok (.istore_n 1, 1) := by decide +kernel
theorem dX11_wrote_5 : decode cX11_wrote 5 = .ok (.iload_n 1, 1) := by decide +kernel
theorem dX11_wrote_6 : decode cX11_wrote 6 = .ok (.iconst 2, 1) := by decide +kernel
theorem dX11_wrote_7 : decode cX11_wrote 7 = .ok (.irem, 1) := by decide +kernel
theorem dX11_wrote_8 : decode cX11_wrote 8 = .ok (.ifCond .eq 14, 3) := by decide +kernel
theorem dX11_wrote_11 : decode cX11_wrote 11 = .ok (.new 130, 3) := by decide +kernel
theorem dX11_wrote_14 : decode cX11_wrote 14 = .ok (.dup, 1) := by decide +kernel
theorem dX11_wrote_15 : decode cX11_wrote 15 = .ok (.ldc_w 409, 3) := by decide +kernel
theorem dX11_wrote_18 : decode cX11_wrote 18 = .ok (.invokespecial 134, 3) := by decide +kernel
theorem dX11_wrote_21 : decode cX11_wrote 21 = .ok (.athrow, 1) := by decide +kernel
theorem dX11_wrote_22 : decode cX11_wrote 22 = .ok (.iconst (-1), 1) := by decide +kernel
theorem dX11_wrote_23 : decode cX11_wrote 23 = .ok (.istore_n 2, 1) := by decide +kernel
theorem dX11_wrote_24 : decode cX11_wrote 24 = .ok (.iconst 0, 1) := by decide +kernel
theorem dX11_wrote_25 : decode cX11_wrote 25 = .ok (.istore_n 3, 1) := by decide +kernel
theorem dX11_wrote_26 : decode cX11_wrote 26 = .ok (.iconst 0, 1) := by decide +kernel
theorem dX11_wrote_27 : decode cX11_wrote 27 = .ok (.istore 4, 2) := by decide +kernel
theorem dX11_wrote_29 : decode cX11_wrote 29 = .ok (.iload 4, 2) := by decide +kernel
theorem dX11_wrote_31 : decode cX11_wrote 31 = .ok (.aload_n 0, 1) := by decide +kernel
theorem dX11_wrote_32 : decode cX11_wrote 32 = .ok (.getfield 19, 3) := by decide +kernel
theorem dX11_wrote_35 : decode cX11_wrote 35 = .ok (.getfield 283, 3) := by decide +kernel
theorem dX11_wrote_38 : decode cX11_wrote 38 = .ok (.if_icmp .ge 74, 3) := by decide +kernel
theorem dX11_wrote_41 : decode cX11_wrote 41 = .ok (.iconst 0, 1) := by decide +kernel
theorem dX11_wrote_42 : decode cX11_wrote 42 = .ok (.istore 5, 2) := by decide +kernel
theorem dX11_wrote_44 : decode cX11_wrote 44 = .ok (.iconst 0, 1) := by decide +kernel
theorem dX11_wrote_45 : decode cX11_wrote 45 = .ok (.istore 6, 2) := by decide +kernel
theorem dX11_wrote_47 : decode cX11_wrote 47 = .ok (.iload 6, 2) := by decide +kernel
theorem dX11_wrote_49 : decode cX11_wrote 49 = .ok (.iconst 1, 1) := by decide +kernel
theorem dX11_wrote_50 : decode cX11_wrote 50 = .ok (.iadd, 1) := by decide +kernel
theorem dX11_wrote_51 : decode cX11_wrote 51 = .ok (.iload_n 1, 1) := by decide +kernel
theorem dX11_wrote_52 : decode cX11_wrote 52 = .ok (.if_icmp .ge 37, 3) := by decide +kernel
theorem dX11_wrote_55 : decode cX11_wrote 55 = .ok (.iload 5, 2) := by decide +kernel
theorem dX11_wrote_57 : decode cX11_wrote 57 = .ok (.aload_n 0, 1) := by decide +kernel
theorem dX11_wrote_58 : decode cX11_wrote 58 = .ok (.getfield 10, 3) := by decide +kernel
theorem dX11_wrote_61 : decode cX11_wrote 61 = .ok (.iload 6, 2) := by decide +kernel
theorem dX11_wrote_63 : decode cX11_wrote 63 = .ok (.invokevirtual 411, 3) := by decide +kernel
theorem dX11_wrote_66 : decode cX11_wrote 66 = .ok (.aload_n 0, 1) := by decide +kernel
theorem dX11_wrote_67 : decode cX11_wrote 67 = .ok (.getfield 19, 3) := by decide +kernel
theorem dX11_wrote_70 : decode cX11_wrote 70 = .ok (.getfield 414, 3) := by decide +kernel
theorem dX11_wrote_73 : decode cX11_wrote 73 = .ok (.iload 4, 2) := by decide +kernel
theorem dX11_wrote_75 : decode cX11_wrote 75 = .ok (.iaload, 1) := by decide +kernel
theorem dX11_wrote_76 : decode cX11_wrote 76 = .ok (.isub, 1) := by decide +kernel
theorem dX11_wrote_77 : decode cX11_wrote 77 = .ok (.invokestatic 356, 3) := by decide +kernel
theorem dX11_wrote_80 : decode cX11_wrote 80 = .ok (.iadd, 1) := by decide +kernel
theorem dX11_wrote_81 : decode cX11_wrote 81 = .ok (.istore 5, 2) := by decide +kernel
theorem dX11_wrote_83 : decode cX11_wrote 83 = .ok (.iinc 6 2, 3) := by decide +kernel
theorem dX11_wrote_86 : decode cX11_wrote 86 = .ok (.goto (-39), 3) := by decide +kernel
theorem dX11_wrote_89 : decode cX11_wrote 89 = .ok (.iload_n 2, 1) := by decide +kernel
theorem dX11_wrote_90 : decode cX11_wrote 90 = .ok (.iconst (-1), 1) := by decide +kernel
theorem dX11_wrote_91 : decode cX11_wrote 91 = .ok (.if_icmp .eq 9, 3) := by decide +kernel
theorem dX11_wrote_94 : decode cX11_wrote 94 = .ok (.iload 5, 2) := by decide +kernel
theorem dX11_wrote_96 : decode cX11_wrote 96 = .ok (.iload_n 3, 1) := by decide +kernel
theorem dX11_wrote_97 : decode cX11_wrote 97 = .ok (.if_icmp .ge 9, 3) := by decide +kernel
theorem dX11_wrote_100 : decode cX11_wrote 100 = .ok (.iload 4, 2) := by decide +kernel
theorem dX11_wrote_102 : decode cX11_wrote 102 = .ok (.istore_n 2, 1) := by decide +kernel
theorem dX11_wrote_103 : decode cX11_wrote 103 = .ok (.iload 5, 2) := by decide +kernel
theorem dX11_wrote_105 : decode cX11_wrote 105 = .ok (.istore_n 3, 1) := by decide +kernel
theorem dX11_wrote_106 : decode cX11_wrote 106 = .ok (.iinc 4 1, 3) := by decide +kernel
theorem dX11_wrote_109 : decode cX11_wrote 109 = .ok (.goto (-80), 3) := by decide +kernel
theorem dX11_wrote_112 : decode cX11_wrote 112 = .ok (.iload_n 2, 1) := by decide +kernel
theorem dX11_wrote_113 : decode cX11_wrote 113 = .ok (.ireturn, 1) := by decide +kernel
theorem dX11_likely_0 : decode cX11_likely 0 = .ok (.aload_n 0, 1) := by decide +kernel
theorem dX11_likely_1 : decode cX11_likely 1 = .ok (.invokevirtual 406, 3) := by decide +kernel
theorem dX11_likely_4 : decode cX11_likely 4 = .ok (.istore_n 2, 1) := by decide +kernel
theorem dX11_likely_5 : decode cX11_likely 5 = .ok (.aload_n 0, 1) := by decide +kernel
theorem dX11_likely_6 : decode cX11_likely 6 = .ok (.iload_n 1, 1) := by decide +kernel
theorem dX11_likely_7 : decode cX11_likely 7 = .ok (.invokevirtual 331, 3) := by decide +kernel
theorem dX11_likely_10 : decode cX11_likely 10 = .ok (.iload_n 2, 1) := by decide +kernel
theorem dX11_likely_11 : decode cX11_likely 11 = .ok (.iconst 2, 1) := by decide +kernel
theorem dX11_likely_12 : decode cX11_likely 12 = .ok (.irem, 1) := by decide +kernel
theorem dX11_likely_13 : decode cX11_likely 13 = .ok (.ifCond .eq 14, 3) := by decide +kernel
theorem dX11_likely_16 : decode cX11_likely 16 = .ok (.new 130, 3) := by decide +kernel
theorem dX11_likely_19 : decode cX11_likely 19 = .ok (.dup, 1) := by decide +kernel
theorem dX11_likely_20 : decode cX11_likely 20 = .ok (.ldc_w 409, 3) := by decide +kernel
theorem dX11_likely_23 : decode cX11_likely 23 = .ok (.invokespecial 134, 3) := by decide +kernel
theorem dX11_likely_26 : decode cX11_likely 26 = .ok (.athrow, 1) := by decide +kernel
theorem dX11_likely_27 : decode cX11_likely 27 = .ok (.iconst 0, 1) := by decide +kernel
theorem dX11_likely_28 : decode cX11_likely 28 = .ok (.istore_n 3, 1) := by decide +kernel
theorem dX11_likely_29 : decode cX11_likely 29 = .ok (.iconst 0, 1) := by decide +kernel
theorem dX11_likely_30 : decode cX11_likely 30 = .ok (.istore 4, 2) := by decide +kernel
theorem dX11_likely_32 : decode cX11_likely 32 = .ok (.iload 4, 2) := by decide +kernel
theorem dX11_likely_34 : decode cX11_likely 34 = .ok (.iconst 1, 1) := by decide +kernel
theorem dX11_likely_35 : decode cX11_likely 35 = .ok (.iadd, 1) := by decide +kernel
theorem dX11_likely_36 : decode cX11_likely 36 = .ok (.iload_n 2, 1) := by decide +kernel
theorem dX11_likely_37 : decode cX11_likely 37 = .ok (.if_icmp .ge 39, 3) := by decide +kernel
theorem dX11_likely_40 : decode cX11_likely 40 = .ok (.aload_n 0, 1) := by decide +kernel
theorem dX11_likely_41 : decode cX11_likely 41 = .ok (.getfield 10, 3) := by decide +kernel
theorem dX11_likely_44 : decode cX11_likely 44 = .ok (.iload 4, 2) := by decide +kernel
theorem dX11_likely_46 : decode cX11_likely 46 = .ok (.invokevirtual 411, 3) := by decide +kernel
theorem dX11_likely_49 : decode cX11_likely 49 = .ok (.aload_n 0, 1) := by decide +kernel
theorem dX11_likely_50 : decode cX11_likely 50 = .ok (.getfield 19, 3) := by decide +kernel
theorem dX11_likely_53 : decode cX11_likely 53 = .ok (.getfield 414, 3) := by decide +kernel
theorem dX11_likely_56 : decode cX11_likely 56 = .ok (.iload_n 1, 1) := by decide +kernel
theorem dX11_likely_57 : decode cX11_likely 57 = .ok (.iaload, 1) := by decide +kernel
theorem dX11_likely_58 : decode cX11_likely 58 = .ok (.isub, 1) := by decide +kernel
theorem dX11_likely_59 : decode cX11_likely 59 = .ok (.invokestatic 356, 3) := by decide +kernel
theorem dX11_likely_62 : decode cX11_likely 62 = .ok (.bipush 10, 2) := by decide +kernel
theorem dX11_likely_64 : decode cX11_likely 64 = .ok (.if_icmp .gt 6, 3) := by decide +kernel
theorem dX11_likely_67 : decode cX11_likely 67 = .ok (.iinc 3 1, 3) := by decide +kernel
theorem dX11_likely_70 : decode cX11_likely 70 = .ok (.iinc 4 2, 3) := by decide +kernel
theorem dX11_likely_73 : decode cX11_likely 73 = .ok (.goto (-41), 3) := by decide +kernel
theorem dX11_likely_76 : decode cX11_likely 76 = .ok (.iload_n 3, 1) := by decide +kernel
theorem dX11_likely_77 : decode cX11_likely 77 = .ok (.ireturn, 1) := by decide +kernel
theorem dX11_useUpWhites_0 : decode cX11_useUpWhites 0 = .ok (.aload_n 0, 1) := by decide +kernel
theorem dX11_useUpWhites_1 : decode cX11_useUpWhites 1 = .ok (.getfield 10, 3) := by decide +kernel
theorem dX11_useUpWhites_4 : decode cX11_useUpWhites 4 = .ok (.getfield 115, 3) := by decide +kernel
theorem dX11_useUpWhites_7 : decode cX11_useUpWhites 7 = .ok (.istore_n 1, 1) := by decide +kernel
theorem dX11_useUpWhites_8 : decode cX11_useUpWhites 8 = .ok (.aload_n 0, 1) := by decide +kernel
theorem dX11_useUpWhites_9 : decode cX11_useUpWhites 9 = .ok (.getfield 10, 3) := by decide +kernel
theorem dX11_useUpWhites_12 : decode cX11_useUpWhites 12 = .ok (.iconst 0, 1) := by decide +kernel
theorem dX11_useUpWhites_13 : decode cX11_useUpWhites 13 = .ok (.putfield 115, 3) := by decide +kernel
theorem dX11_useUpWhites_16 : decode cX11_useUpWhites 16 = .ok (.iload_n 1, 1) := by decide +kernel
theorem dX11_useUpWhites_17 : decode cX11_useUpWhites 17 = .ok (.ireturn, 1) := by decide +kernel
theorem dX11_lookers_0 : decode cX11_lookers 0 = .ok (.aload_n 0, 1) := by decide +kernel
theorem dX11_lookers_1 : decode cX11_lookers 1 = .ok (.getfield 42, 3) := by decide +kernel
theorem dX11_lookers_4 : decode cX11_lookers 4 = .ok (.aload_n 0, 1) := by decide +kernel
theorem dX11_lookers_5 : decode cX11_lookers 5 = .ok (.getfield 33, 3) := by decide +kernel
theorem dX11_lookers_8 : decode cX11_lookers 8 = .ok (.getfield 234, 3) := by decide +kernel
theorem dX11_lookers_11 : decode cX11_lookers 11 = .ok (.iconst 0, 1) := by decide +kernel
theorem dX11_lookers_12 : decode cX11_lookers 12 = .ok (.invokevirtual 349, 3) := by decide +kernel
theorem dX11_lookers_15 : decode cX11_lookers 15 = .ok (.istore_n 2, 1) := by decide +kernel
theorem dX11_lookers_16 : decode cX11_lookers 16 = .ok (.iconst 0, 1) := by decide +kernel
theorem dX11_lookers_17 : decode cX11_lookers 17 = .ok (.istore_n 3, 1) := by decide +kernel
theorem dX11_lookers_18 : decode cX11_lookers 18 = .ok (.iconst 0, 1) := by decide +kernel
theorem dX11_lookers_19 : decode cX11_lookers 19 = .ok (.istore 4, 2) := by decide +kernel
theorem dX11_lookers_21 : decode cX11_lookers 21 = .ok (.iload 4, 2) := by decide +kernel
theorem dX11_lookers_23 : decode cX11_lookers 23 = .ok (.aload_n 0, 1) := by decide +kernel
theorem dX11_lookers_24 : decode cX11_lookers 24 = .ok (.getfield 19, 3) := by decide +kernel
theorem dX11_lookers_27 : decode cX11_lookers 27 = .ok (.getfield 286, 3) := by decide +kernel
theorem dX11_lookers_30 : decode cX11_lookers 30 = .ok (.if_icmp .ge 26, 3) := by decide +kernel
theorem dX11_lookers_33 : decode cX11_lookers 33 = .ok (.iload_n 2, 1) := by decide +kernel
theorem dX11_lookers_34 : decode cX11_lookers 34 = .ok (.aload_n 0, 1) := by decide +kernel
theorem dX11_lookers_35 : decode cX11_lookers 35 = .ok (.getfield 19, 3) := by decide +kernel
theorem dX11_lookers_38 : decode cX11_lookers 38 = .ok (.getfield 417, 3) := by decide +kernel
theorem dX11_lookers_41 : decode cX11_lookers 41 = .ok (.iload 4, 2) := by decide +kernel
theorem dX11_lookers_43 : decode cX11_lookers 43 = .ok (.iaload, 1) := by decide +kernel
theorem dX11_lookers_44 : decode cX11_lookers 44 = .ok (.if_icmp .ge 6, 3) := by decide +kernel
theorem dX11_lookers_47 : decode cX11_lookers 47 = .ok (.iinc 3 1, 3) := by decide +kernel
theorem dX11_lookers_50 : decode cX11_lookers 50 = .ok (.iinc 4 1, 3) := by decide +kernel
theorem dX11_lookers_53 : decode cX11_lookers 53 = .ok (.goto (-32), 3) := by decide +kernel
theorem dX11_lookers_56 : decode cX11_lookers 56 = .ok (.aload_n 0, 1) := by decide +kernel
theorem dX11_lookers_57 : decode cX11_lookers 57 = .ok (.getfield 19, 3) := by decide +kernel
theorem dX11_lookers_60 : decode cX11_lookers 60 = .ok (.getfield 286, 3) := by decide +kernel
theorem dX11_lookers_63 : decode cX11_lookers 63 = .ok (.iload_n 3, 1) := by decide +kernel
theorem dX11_lookers_64 : decode cX11_lookers 64 = .ok (.isub, 1) := by decide +kernel
theorem dX11_lookers_65 : decode cX11_lookers 65 = .ok (.istore 4, 2) := by decide +kernel
theorem dX11_lookers_67 : decode cX11_lookers 67 = .ok (.iload_n 1, 1) := by decide +kernel
theorem dX11_lookers_68 : decode cX11_lookers 68 = .ok (.ifCond .eq 23, 3) := by decide +kernel
theorem dX11_lookers_71 : decode cX11_lookers 71 = .ok (.iload_n 3, 1) := by decide +kernel
theorem dX11_lookers_72 : decode cX11_lookers 72 = .ok (.iload_n 3, 1) := by decide +kernel
theorem dX11_lookers_73 : decode cX11_lookers 73 = .ok (.iconst 1, 1) := by decide +kernel
theorem dX11_lookers_74 : decode cX11_lookers 74 = .ok (.isub, 1) := by decide +kernel
theorem dX11_lookers_75 : decode cX11_lookers 75 = .ok (.imul, 1) := by decide +kernel
theorem dX11_lookers_76 : decode cX11_lookers 76 = .ok (.iconst 2, 1) := by decide +kernel
theorem dX11_lookers_77 : decode cX11_lookers 77 = .ok (.idiv, 1) := by decide +kernel
theorem dX11_lookers_78 : decode cX11_lookers 78 = .ok (.iload 4, 2) := by decide +kernel
theorem dX11_lookers_80 : decode cX11_lookers 80 = .ok (.iload 4, 2) := by decide +kernel
theorem dX11_lookers_82 : decode cX11_lookers 82 = .ok (.iconst 1, 1) := by decide +kernel
theorem dX11_lookers_83 : decode cX11_lookers 83 = .ok (.isub, 1) := by decide +kernel
theorem dX11_lookers_84 : decode cX11_lookers 84 = .ok (.imul, 1) := by decide +kernel
theorem dX11_lookers_85 : decode cX11_lookers 85 = .ok (.iconst 2, 1) := by decide +kernel
theorem dX11_lookers_86 : decode cX11_lookers 86 = .ok (.idiv, 1) := by decide +kernel
theorem dX11_lookers_87 : decode cX11_lookers 87 = .ok (.iadd, 1) := by decide +kernel
theorem dX11_lookers_88 : decode cX11_lookers 88 = .ok (.goto 4, 3) := by decide +kernel
theorem dX11_lookers_91 : decode cX11_lookers 91 = .ok (.iload_n 3, 1) := by decide +kernel
theorem dX11_lookers_92 : decode cX11_lookers 92 = .ok (.ireturn, 1) := by decide +kernel
theorem dX11_trial_0 : decode cX11_trial 0 = .ok (.aload_n 0, 1) := by decide +kernel
theorem dX11_trial_1 : decode cX11_trial 1 = .ok (.iload_n 1, 1) := by decide +kernel
theorem dX11_trial_2 : decode cX11_trial 2 = .ok (.invokevirtual 331, 3) := by decide +kernel
theorem dX11_trial_5 : decode cX11_trial 5 = .ok (.aload_n 0, 1) := by decide +kernel
theorem dX11_trial_6 : decode cX11_trial 6 = .ok (.iload_n 2, 1) := by decide +kernel
theorem dX11_trial_7 : decode cX11_trial 7 = .ok (.invokevirtual 420, 3) := by decide +kernel
theorem dX11_trial_10 : decode cX11_trial 10 = .ok (.aload_n 0, 1) := by decide +kernel
theorem dX11_trial_11 : decode cX11_trial 11 = .ok (.iload_n 1, 1) := by decide +kernel
theorem dX11_trial_12 : decode cX11_trial 12 = .ok (.iload_n 2, 1) := by decide +kernel
theorem dX11_trial_13 : decode cX11_trial 13 = .ok (.aload_n 0, 1) := by decide +kernel
theorem dX11_trial_14 : decode cX11_trial 14 = .ok (.getfield 33, 3) := by decide +kernel
theorem dX11_trial_17 : decode cX11_trial 17 = .ok (.getfield 340, 3) := by decide +kernel
theorem dX11_trial_20 : decode cX11_trial 20 = .ok (.invokevirtual 423, 3) := by decide +kernel
theorem dX11_trial_23 : decode cX11_trial 23 = .ok (.iload_n 3, 1) := by decide +kernel
theorem dX11_trial_24 : decode cX11_trial 24 = .ok (.ifCond .eq 16, 3) := by decide +kernel
theorem dX11_trial_27 : decode cX11_trial 27 = .ok (.aload_n 0, 1) := by decide +kernel
theorem dX11_trial_28 : decode cX11_trial 28 = .ok (.getfield 87, 3) := by decide +kernel
theorem dX11_trial_31 : decode cX11_trial 31 = .ok (.getfield 296, 3) := by decide +kernel
theorem dX11_trial_34 : decode cX11_trial 34 = .ok (.invokestatic 427, 3) := by decide +kernel
theorem dX11_trial_37 : decode cX11_trial 37 = .ok (.goto 18, 3) := by decide +kernel
theorem dX11_trial_40 : decode cX11_trial 40 = .ok (.aload_n 0, 1) := by decide +kernel
theorem dX11_trial_41 : decode cX11_trial 41 = .ok (.getfield 42, 3) := by decide +kernel
theorem dX11_trial_44 : decode cX11_trial 44 = .ok (.aload_n 0, 1) := by decide +kernel
theorem dX11_trial_45 : decode cX11_trial 45 = .ok (.getfield 87, 3) := by decide +kernel
theorem dX11_trial_48 : decode cX11_trial 48 = .ok (.getfield 234, 3) := by decide +kernel
theorem dX11_trial_51 : decode cX11_trial 51 = .ok (.iconst 0, 1) := by decide +kernel
theorem dX11_trial_52 : decode cX11_trial 52 = .ok (.invokevirtual 349, 3) := by decide +kernel
theorem dX11_trial_55 : decode cX11_trial 55 = .ok (.ireturn, 1) := by decide +kernel
theorem dX11_span_0 : decode cX11_span 0 = .ok (.aload_n 0, 1) := by decide +kernel
theorem dX11_span_1 : decode cX11_span 1 = .ok (.iload_n 1, 1) := by decide +kernel
theorem dX11_span_2 : decode cX11_span 2 = .ok (.invokevirtual 331, 3) := by decide +kernel
theorem dX11_span_5 : decode cX11_span 5 = .ok (.aload_n 0, 1) := by decide +kernel
theorem dX11_span_6 : decode cX11_span 6 = .ok (.iload_n 2, 1) := by decide +kernel
theorem dX11_span_7 : decode cX11_span 7 = .ok (.invokevirtual 420, 3) := by decide +kernel
theorem dX11_span_10 : decode cX11_span 10 = .ok (.iconst (-1), 1) := by decide +kernel
theorem dX11_span_11 : decode cX11_span 11 = .ok (.istore 4, 2) := by decide +kernel
theorem dX11_span_13 : decode cX11_span 13 = .ok (.iconst 1, 1) := by decide +kernel
theorem dX11_span_14 : decode cX11_span 14 = .ok (.istore 5, 2) := by decide +kernel
theorem dX11_span_16 : decode cX11_span 16 = .ok (.iload 5, 2) := by decide +kernel
theorem dX11_span_18 : decode cX11_span 18 = .ok (.bipush 6, 2) := by decide +kernel
theorem dX11_span_20 : decode cX11_span 20 = .ok (.if_icmp .gt 65, 3) := by decide +kernel
theorem dX11_span_23 : decode cX11_span 23 = .ok (.aload_n 0, 1) := by decide +kernel
theorem dX11_span_24 : decode cX11_span 24 = .ok (.iload_n 1, 1) := by decide +kernel
theorem dX11_span_25 : decode cX11_span 25 = .ok (.iload_n 2, 1) := by decide +kernel
theorem dX11_span_26 : decode cX11_span 26 = .ok (.iload 5, 2) := by decide +kernel
theorem dX11_span_28 : decode cX11_span 28 = .ok (.invokevirtual 423, 3) := by decide +kernel
theorem dX11_span_31 : decode cX11_span 31 = .ok (.aload_n 0, 1) := by decide +kernel
theorem dX11_span_32 : decode cX11_span 32 = .ok (.getfield 42, 3) := by decide +kernel
theorem dX11_span_35 : decode cX11_span 35 = .ok (.aload_n 0, 1) := by decide +kernel
theorem dX11_span_36 : decode cX11_span 36 = .ok (.getfield 87, 3) := by decide +kernel
theorem dX11_span_39 : decode cX11_span 39 = .ok (.getfield 234, 3) := by decide +kernel
theorem dX11_span_42 : decode cX11_span 42 = .ok (.iconst 0, 1) := by decide +kernel
theorem dX11_span_43 : decode cX11_span 43 = .ok (.invokevirtual 349, 3) := by decide +kernel
theorem dX11_span_46 : decode cX11_span 46 = .ok (.istore 6, 2) := by decide +kernel
theorem dX11_span_48 : decode cX11_span 48 = .ok (.iload 4, 2) := by decide +kernel
theorem dX11_span_50 : decode cX11_span 50 = .ok (.iconst (-1), 1) := by decide +kernel
theorem dX11_span_51 : decode cX11_span 51 = .ok (.if_icmp .eq 24, 3) := by decide +kernel
theorem dX11_span_54 : decode cX11_span 54 = .ok (.iload_n 3, 1) := by decide +kernel
theorem dX11_span_55 : decode cX11_span 55 = .ok (.ifCond .eq 13, 3) := by decide +kernel
theorem dX11_span_58 : decode cX11_span 58 = .ok (.iload 6, 2) := by decide +kernel
theorem dX11_span_60 : decode cX11_span 60 = .ok (.iload 4, 2) := by decide +kernel
theorem dX11_span_62 : decode cX11_span 62 = .ok (.if_icmp .le 17, 3) := by decide +kernel
theorem dX11_span_65 : decode cX11_span 65 = .ok (.goto 10, 3) := by decide +kernel
theorem dX11_span_68 : decode cX11_span 68 = .ok (.iload 6, 2) := by decide +kernel
theorem dX11_span_70 : decode cX11_span 70 = .ok (.iload 4, 2) := by decide +kernel
theorem dX11_span_72 : decode cX11_span 72 = .ok (.if_icmp .ge 7, 3) := by decide +kernel
theorem dX11_span_75 : decode cX11_span 75 = .ok (.iload 6, 2) := by decide +kernel
theorem dX11_span_77 : decode cX11_span 77 = .ok (.istore 4, 2) := by decide +kernel
theorem dX11_span_79 : decode cX11_span 79 = .ok (.iinc 5 1, 3) := by decide +kernel
theorem dX11_span_82 : decode cX11_span 82 = .ok (.goto (-66), 3) := by decide +kernel
theorem dX11_span_85 : decode cX11_span 85 = .ok (.iload 4, 2) := by decide +kernel
theorem dX11_span_87 : decode cX11_span 87 = .ok (.ireturn, 1) := by decide +kernel
theorem dX11_tryDays_0 : decode cX11_tryDays 0 = .ok (.aload_n 0, 1) := by decide +kernel
theorem dX11_tryDays_1 : decode cX11_tryDays 1 = .ok (.getfield 87, 3) := by decide +kernel
theorem dX11_tryDays_4 : decode cX11_tryDays 4 = .ok (.aload_n 0, 1) := by decide +kernel
theorem dX11_tryDays_5 : decode cX11_tryDays 5 = .ok (.getfield 33, 3) := by decide +kernel
theorem dX11_tryDays_8 : decode cX11_tryDays 8 = .ok (.invokevirtual 347, 3) := by decide +kernel
theorem dX11_tryDays_11 : decode cX11_tryDays 11 = .ok (.aload_n 0, 1) := by decide +kernel
theorem dX11_tryDays_12 : decode cX11_tryDays 12 = .ok (.getfield 87, 3) := by decide +kernel
theorem dX11_tryDays_15 : decode cX11_tryDays 15 = .ok (.iload_n 3, 1) := by decide +kernel
theorem dX11_tryDays_16 : decode cX11_tryDays 16 = .ok (.putfield 340, 3) := by decide +kernel
theorem dX11_tryDays_19 : decode cX11_tryDays 19 = .ok (.iconst 0, 1) := by decide +kernel
theorem dX11_tryDays_20 : decode cX11_tryDays 20 = .ok (.istore 4, 2) := by decide +kernel
theorem dX11_tryDays_22 : decode cX11_tryDays 22 = .ok (.iload 4, 2) := by decide +kernel
theorem dX11_tryDays_24 : decode cX11_tryDays 24 = .ok (.iload_n 2, 1) := by decide +kernel
theorem dX11_tryDays_25 : decode cX11_tryDays 25 = .ok (.if_icmp .ge 34, 3) := by decide +kernel
theorem dX11_tryDays_28 : decode cX11_tryDays 28 = .ok (.aload_n 0, 1) := by decide +kernel
theorem dX11_tryDays_29 : decode cX11_tryDays 29 = .ok (.getfield 87, 3) := by decide +kernel
theorem dX11_tryDays_32 : decode cX11_tryDays 32 = .ok (.iload_n 1, 1) := by decide +kernel
theorem dX11_tryDays_33 : decode cX11_tryDays 33 = .ok (.aload_n 0, 1) := by decide +kernel
theorem dX11_tryDays_34 : decode cX11_tryDays 34 = .ok (.getfield 19, 3) := by decide +kernel
theorem dX11_tryDays_37 : decode cX11_tryDays 37 = .ok (.getfield 334, 3) := by decide +kernel
theorem dX11_tryDays_40 : decode cX11_tryDays 40 = .ok (.iload_n 1, 1) := by decide +kernel
theorem dX11_tryDays_41 : decode cX11_tryDays 41 = .ok (.iaload, 1) := by decide +kernel
theorem dX11_tryDays_42 : decode cX11_tryDays 42 = .ok (.aload_n 0, 1) := by decide +kernel
theorem dX11_tryDays_43 : decode cX11_tryDays 43 = .ok (.getfield 19, 3) := by decide +kernel
theorem dX11_tryDays_46 : decode cX11_tryDays 46 = .ok (.getfield 268, 3) := by decide +kernel
theorem dX11_tryDays_49 : decode cX11_tryDays 49 = .ok (.invokevirtual 337, 3) := by decide +kernel
theorem dX11_tryDays_52 : decode cX11_tryDays 52 = .ok (.pop, 1) := by decide +kernel
theorem dX11_tryDays_53 : decode cX11_tryDays 53 = .ok (.iinc 4 1, 3) := by decide +kernel
theorem dX11_tryDays_56 : decode cX11_tryDays 56 = .ok (.goto (-34), 3) := by decide +kernel
theorem dX11_tryDays_59 : decode cX11_tryDays 59 = .ok (.return_, 1) := by decide +kernel
theorem dX11_slips_0 : decode cX11_slips 0 = .ok (.iload_n 1, 1) := by decide +kernel
theorem dX11_slips_1 : decode cX11_slips 1 = .ok (.iconst (-1), 1) := by decide +kernel
theorem dX11_slips_2 : decode cX11_slips 2 = .ok (.if_icmp .eq 8, 3) := by decide +kernel
theorem dX11_slips_5 : decode cX11_slips 5 = .ok (.aload_n 0, 1) := by decide +kernel
theorem dX11_slips_6 : decode cX11_slips 6 = .ok (.iload_n 1, 1) := by decide +kernel
theorem dX11_slips_7 : decode cX11_slips 7 = .ok (.invokevirtual 331, 3) := by decide +kernel
theorem dX11_slips_10 : decode cX11_slips 10 = .ok (.iconst 0, 1) := by decide +kernel
theorem dX11_slips_11 : decode cX11_slips 11 = .ok (.istore_n 2, 1) := by decide +kernel
theorem dX11_slips_12 : decode cX11_slips 12 = .ok (.iconst 0, 1) := by decide +kernel
theorem dX11_slips_13 : decode cX11_slips 13 = .ok (.istore_n 3, 1) := by decide +kernel
theorem dX11_slips_14 : decode cX11_slips 14 = .ok (.iload_n 3, 1) := by decide +kernel
theorem dX11_slips_15 : decode cX11_slips 15 = .ok (.aload_n 0, 1) := by decide +kernel
theorem dX11_slips_16 : decode cX11_slips 16 = .ok (.getfield 33, 3) := by decide +kernel
theorem dX11_slips_19 : decode cX11_slips 19 = .ok (.getfield 299, 3) := by decide +kernel
theorem dX11_slips_22 : decode cX11_slips 22 = .ok (.if_icmp .ge 54, 3) := by decide +kernel
theorem dX11_slips_25 : decode cX11_slips 25 = .ok (.iload_n 1, 1) := by decide +kernel
theorem dX11_slips_26 : decode cX11_slips 26 = .ok (.iconst (-1), 1) := by decide +kernel
theorem dX11_slips_27 : decode cX11_slips 27 = .ok (.if_icmp .eq 16, 3) := by decide +kernel
theorem dX11_slips_30 : decode cX11_slips 30 = .ok (.aload_n 0, 1) := by decide +kernel
theorem dX11_slips_31 : decode cX11_slips 31 = .ok (.getfield 33, 3) := by decide +kernel
theorem dX11_slips_34 : decode cX11_slips 34 = .ok (.iload_n 3, 1) := by decide +kernel
theorem dX11_slips_35 : decode cX11_slips 35 = .ok (.iconst 2, 1) := by decide +kernel
theorem dX11_slips_36 : decode cX11_slips 36 = .ok (.invokevirtual 432, 3) := by decide +kernel
theorem dX11_slips_39 : decode cX11_slips 39 = .ok (.iload_n 1, 1) := by decide +kernel
theorem dX11_slips_40 : decode cX11_slips 40 = .ok (.if_icmp .ne 7, 3) := by decide +kernel
theorem dX11_slips_43 : decode cX11_slips 43 = .ok (.iconst 1, 1) := by decide +kernel
theorem dX11_slips_44 : decode cX11_slips 44 = .ok (.goto 4, 3) := by decide +kernel
theorem dX11_slips_47 : decode cX11_slips 47 = .ok (.iconst 0, 1) := by decide +kernel
theorem dX11_slips_48 : decode cX11_slips 48 = .ok (.istore 4, 2) := by decide +kernel
theorem dX11_slips_50 : decode cX11_slips 50 = .ok (.iload 4, 2) := by decide +kernel
theorem dX11_slips_52 : decode cX11_slips 52 = .ok (.ifCond .eq 18, 3) := by decide +kernel
theorem dX11_slips_55 : decode cX11_slips 55 = .ok (.aload_n 0, 1) := by decide +kernel
theorem dX11_slips_56 : decode cX11_slips 56 = .ok (.getfield 33, 3) := by decide +kernel
theorem dX11_slips_59 : decode cX11_slips 59 = .ok (.iload_n 3, 1) := by decide +kernel
theorem dX11_slips_60 : decode cX11_slips 60 = .ok (.iconst 3, 1) := by decide +kernel
theorem dX11_slips_61 : decode cX11_slips 61 = .ok (.invokevirtual 432, 3) := by decide +kernel
theorem dX11_slips_64 : decode cX11_slips 64 = .ok (.ifCond .eq 6, 3) := by decide +kernel
theorem dX11_slips_67 : decode cX11_slips 67 = .ok (.iinc 2 1, 3) := by decide +kernel
theorem dX11_slips_70 : decode cX11_slips 70 = .ok (.iinc 3 1, 3) := by decide +kernel
theorem dX11_slips_73 : decode cX11_slips 73 = .ok (.goto (-59), 3) := by decide +kernel
theorem dX11_slips_76 : decode cX11_slips 76 = .ok (.iload_n 2, 1) := by decide +kernel
theorem dX11_slips_77 : decode cX11_slips 77 = .ok (.ireturn, 1) := by decide +kernel
theorem dX11_log_0 : decode cX11_log 0 = .ok (.iload_n 2, 1) := by decide +kernel
theorem dX11_log_1 : decode cX11_log 1 = .ok (.ifCond .lt 8, 3) := by decide +kernel
theorem dX11_log_4 : decode cX11_log 4 = .ok (.iload_n 2, 1) := by decide +kernel
theorem dX11_log_5 : decode cX11_log 5 = .ok (.iconst 4, 1) := by decide +kernel
theorem dX11_log_6 : decode cX11_log 6 = .ok (.if_icmp .lt 14, 3) := by decide +kernel
theorem dX11_log_9 : decode cX11_log 9 = .ok (.new 196, 3) := by decide +kernel
theorem dX11_log_12 : decode cX11_log 12 = .ok (.dup, 1) := by decide +kernel
theorem dX11_log_13 : decode cX11_log 13 = .ok (.ldc_w 435, 3) := by decide +kernel
theorem dX11_log_16 : decode cX11_log 16 = .ok (.invokespecial 200, 3) := by decide +kernel
theorem dX11_log_19 : decode cX11_log 19 = .ok (.athrow, 1) := by decide +kernel
theorem dX11_log_20 : decode cX11_log 20 = .ok (.iload_n 1, 1) := by decide +kernel
theorem dX11_log_21 : decode cX11_log 21 = .ok (.ifCond .lt 14, 3) := by decide +kernel
theorem dX11_log_24 : decode cX11_log 24 = .ok (.iload_n 1, 1) := by decide +kernel
theorem dX11_log_25 : decode cX11_log 25 = .ok (.aload_n 0, 1) := by decide +kernel
theorem dX11_log_26 : decode cX11_log 26 = .ok (.getfield 33, 3) := by decide +kernel
theorem dX11_log_29 : decode cX11_log 29 = .ok (.getfield 299, 3) := by decide +kernel
theorem dX11_log_32 : decode cX11_log 32 = .ok (.if_icmp .lt 8, 3) := by decide +kernel
theorem dX11_log_35 : decode cX11_log 35 = .ok (.bipush (-99), 2) := by decide +kernel
theorem dX11_log_37 : decode cX11_log 37 = .ok (.goto 12, 3) := by decide +kernel
theorem dX11_log_40 : decode cX11_log 40 = .ok (.aload_n 0, 1) := by decide +kernel
theorem dX11_log_41 : decode cX11_log 41 = .ok (.getfield 33, 3) := by decide +kernel
theorem dX11_log_44 : decode cX11_log 44 = .ok (.iload_n 1, 1) := by decide +kernel
theorem dX11_log_45 : decode cX11_log 45 = .ok (.iload_n 2, 1) := by decide +kernel
theorem dX11_log_46 : decode cX11_log 46 = .ok (.invokevirtual 432, 3) := by decide +kernel
theorem dX11_log_49 : decode cX11_log 49 = .ok (.ireturn, 1) := by decide +kernel
theorem dX11_needSign_0 : decode cX11_needSign 0 = .ok (.iload_n 1, 1) := by decide +kernel
theorem dX11_needSign_1 : decode cX11_needSign 1 = .ok (.ifCond .lt 14, 3) := by decide +kernel
theorem dX11_needSign_4 : decode cX11_needSign 4 = .ok (.iload_n 1, 1) := by decide +kernel
theorem dX11_needSign_5 : decode cX11_needSign 5 = .ok (.aload_n 0, 1) := by decide +kernel
theorem dX11_needSign_6 : decode cX11_needSign 6 = .ok (.getfield 19, 3) := by decide +kernel
theorem dX11_needSign_9 : decode cX11_needSign 9 = .ok (.getfield 265, 3) := by decide +kernel
theorem dX11_needSign_12 : decode cX11_needSign 12 = .ok (.if_icmp .lt 14, 3) := by decide +kernel
theorem dX11_needSign_15 : decode cX11_needSign 15 = .ok (.new 437, 3) := by decide +kernel
theorem dX11_needSign_18 : decode cX11_needSign 18 = .ok (.dup, 1) := by decide +kernel
theorem dX11_needSign_19 : decode cX11_needSign 19 = .ok (.ldc_w 439, 3) := by decide +kernel
theorem dX11_needSign_22 : decode cX11_needSign 22 = .ok (.invokespecial 441, 3) := by decide +kernel
theorem dX11_needSign_25 : decode cX11_needSign 25 = .ok (.athrow, 1) := by decide +kernel
theorem dX11_needSign_26 : decode cX11_needSign 26 = .ok (.return_, 1) := by decide +kernel
theorem dX11_needRow_0 : decode cX11_needRow 0 = .ok (.iload_n 1, 1) := by decide +kernel
theorem dX11_needRow_1 : decode cX11_needRow 1 = .ok (.ifCond .lt 8, 3) := by decide +kernel
theorem dX11_needRow_4 : decode cX11_needRow 4 = .ok (.iload_n 1, 1) := by decide +kernel
theorem dX11_needRow_5 : decode cX11_needRow 5 = .ok (.iconst 5, 1) := by decide +kernel
theorem dX11_needRow_6 : decode cX11_needRow 6 = .ok (.if_icmp .lt 14, 3) := by decide +kernel
theorem dX11_needRow_9 : decode cX11_needRow 9 = .ok (.new 437, 3) := by decide +kernel
theorem dX11_needRow_12 : decode cX11_needRow 12 = .ok (.dup, 1) := by decide +kernel
theorem dX11_needRow_13 : decode cX11_needRow 13 = .ok (.ldc_w 442, 3) := by decide +kernel
theorem dX11_needRow_16 : decode cX11_needRow 16 = .ok (.invokespecial 441, 3) := by decide +kernel
theorem dX11_needRow_19 : decode cX11_needRow 19 = .ok (.athrow, 1) := by decide +kernel
theorem dX11_needRow_20 : decode cX11_needRow 20 = .ok (.return_, 1) := by decide +kernel
theorem dX11_needLetter_0 : decode cX11_needLetter 0 = .ok (.iload_n 1, 1) := by decide +kernel
theorem dX11_needLetter_1 : decode cX11_needLetter 1 = .ok (.ifCond .lt 14, 3) := by decide +kernel
theorem dX11_needLetter_4 : decode cX11_needLetter 4 = .ok (.iload_n 1, 1) := by decide +kernel
theorem dX11_needLetter_5 : decode cX11_needLetter 5 = .ok (.aload_n 0, 1) := by decide +kernel
theorem dX11_needLetter_6 : decode cX11_needLetter 6 = .ok (.getfield 19, 3) := by decide +kernel
theorem dX11_needLetter_9 : decode cX11_needLetter 9 = .ok (.getfield 268, 3) := by decide +kernel
theorem dX11_needLetter_12 : decode cX11_needLetter 12 = .ok (.if_icmp .lt 14, 3) := by decide +kernel
theorem dX11_needLetter_15 : decode cX11_needLetter 15 = .ok (.new 437, 3) := by decide +kernel
theorem dX11_needLetter_18 : decode cX11_needLetter 18 = .ok (.dup, 1) := by decide +kernel
theorem dX11_needLetter_19 : decode cX11_needLetter 19 = .ok (.ldc_w 444, 3) := by decide +kernel
theorem dX11_needLetter_22 : decode cX11_needLetter 22 = .ok (.invokespecial 441, 3) := by decide +kernel
theorem dX11_needLetter_25 : decode cX11_needLetter 25 = .ok (.athrow, 1) := by decide +kernel
theorem dX11_needLetter_26 : decode cX11_needLetter 26 = .ok (.return_, 1) := by decide +kernel
theorem dX11_needGap_0 : decode cX11_needGap 0 = .ok (.iload_n 1, 1) := by decide +kernel
theorem dX11_needGap_1 : decode cX11_needGap 1 = .ok (.ifCond .lt 14, 3) := by decide +kernel
theorem dX11_needGap_4 : decode cX11_needGap 4 = .ok (.iload_n 1, 1) := by decide +kernel
theorem dX11_needGap_5 : decode cX11_needGap 5 = .ok (.aload_n 0, 1) := by decide +kernel
theorem dX11_needGap_6 : decode cX11_needGap 6 = .ok (.getfield 19, 3) := by decide +kernel
theorem dX11_needGap_9 : decode cX11_needGap 9 = .ok (.invokevirtual 353, 3) := by decide +kernel
theorem dX11_needGap_12 : decode cX11_needGap 12 = .ok (.if_icmp .lt 14, 3) := by decide +kernel
theorem dX11_needGap_15 : decode cX11_needGap 15 = .ok (.new 437, 3) := by decide +kernel
theorem dX11_needGap_18 : decode cX11_needGap 18 = .ok (.dup, 1) := by decide +kernel
theorem dX11_needGap_19 : decode cX11_needGap 19 = .ok (.ldc_w 446, 3) := by decide +kernel
theorem dX11_needGap_22 : decode cX11_needGap 22 = .ok (.invokespecial 441, 3) := by decide +kernel
theorem dX11_needGap_25 : decode cX11_needGap 25 = .ok (.athrow, 1) := by decide +kernel
theorem dX11_needGap_26 : decode cX11_needGap 26 = .ok (.return_, 1) := by decide +kernel
theorem dX11_needWriter_0 : decode cX11_needWriter 0 = .ok (.iload_n 1, 1) := by decide +kernel
theorem dX11_needWriter_1 : decode cX11_needWriter 1 = .ok (.ifCond .lt 14, 3) := by decide +kernel
theorem dX11_needWriter_4 : decode cX11_needWriter 4 = .ok (.iload_n 1, 1) := by decide +kernel
theorem dX11_needWriter_5 : decode cX11_needWriter 5 = .ok (.aload_n 0, 1) := by decide +kernel
theorem dX11_needWriter_6 : decode cX11_needWriter 6 = .ok (.getfield 19, 3) := by decide +kernel
theorem dX11_needWriter_9 : decode cX11_needWriter 9 = .ok (.getfield 283, 3) := by decide +kernel
theorem dX11_needWriter_12 : decode cX11_needWriter 12 = .ok (.if_icmp .lt 14, 3) := by decide +kernel
theorem dX11_needWriter_15 : decode cX11_needWriter 15 = .ok (.new 437, 3) := by decide +kernel
theorem dX11_needWriter_18 : decode cX11_needWriter 18 = .ok (.dup, 1) := by decide +kernel
theorem dX11_needWriter_19 : decode cX11_needWriter 19 = .ok (.ldc_w 448, 3) := by decide +kernel
theorem dX11_needWriter_22 : decode cX11_needWriter 22 = .ok (.invokespecial 441, 3) := by decide +kernel
theorem dX11_needWriter_25 : decode cX11_needWriter 25 = .ok (.athrow, 1) := by decide +kernel
theorem dX11_needWriter_26 : decode cX11_needWriter 26 = .ok (.return_, 1) := by decide +kernel
theorem dX11_needDistance_0 : decode cX11_needDistance 0 = .ok (.iload_n 1, 1) := by decide +kernel
theorem dX11_needDistance_1 : decode cX11_needDistance 1 = .ok (.ifCond .lt 9, 3) := by decide +kernel
theorem dX11_needDistance_4 : decode cX11_needDistance 4 = .ok (.iload_n 1, 1) := by decide +kernel
theorem dX11_needDistance_5 : decode cX11_needDistance 5 = .ok (.bipush 30, 2) := by decide +kernel
theorem dX11_needDistance_7 : decode cX11_needDistance 7 = .ok (.if_icmp .le 14, 3) := by decide +kernel
theorem dX11_needDistance_10 : decode cX11_needDistance 10 = .ok (.new 130, 3) := by decide +kernel
theorem dX11_needDistance_13 : decode cX11_needDistance 13 = .ok (.dup, 1) := by decide +kernel
theorem dX11_needDistance_14 : decode cX11_needDistance 14 = .ok (.ldc_w 450, 3) := by decide +kernel
theorem dX11_needDistance_17 : decode cX11_needDistance 17 = .ok (.invokespecial 134, 3) := by decide +kernel
theorem dX11_needDistance_20 : decode cX11_needDistance 20 = .ok (.athrow, 1) := by decide +kernel
theorem dX11_needDistance_21 : decode cX11_needDistance 21 = .ok (.return_, 1) := by decide +kernel
theorem dX11_needWhite_0 : decode cX11_needWhite 0 = .ok (.iload_n 1, 1) := by decide +kernel
theorem dX11_needWhite_1 : decode cX11_needWhite 1 = .ok (.ifCond .lt 10, 3) := by decide +kernel
theorem dX11_needWhite_4 : decode cX11_needWhite 4 = .ok (.iload_n 1, 1) := by decide +kernel
theorem dX11_needWhite_5 : decode cX11_needWhite 5 = .ok (.sipush 2000, 3) := by decide +kernel
theorem dX11_needWhite_8 : decode cX11_needWhite 8 = .ok (.if_icmp .le 14, 3) := by decide +kernel
theorem dX11_needWhite_11 : decode cX11_needWhite 11 = .ok (.new 130, 3) := by decide +kernel
theorem dX11_needWhite_14 : decode cX11_needWhite 14 = .ok (.dup, 1) := by decide +kernel
theorem dX11_needWhite_15 : decode cX11_needWhite 15 = .ok (.ldc_w 452, 3) := by decide +kernel
theorem dX11_needWhite_18 : decode cX11_needWhite 18 = .ok (.invokespecial 134, 3) := by decide +kernel
theorem dX11_needWhite_21 : decode cX11_needWhite 21 = .ok (.athrow, 1) := by decide +kernel
theorem dX11_needWhite_22 : decode cX11_needWhite 22 = .ok (.return_, 1) := by decide +kernel
theorem dX11_needYards_0 : decode cX11_needYards 0 = .ok (.iload_n 1, 1) := by decide +kernel
theorem dX11_needYards_1 : decode cX11_needYards 1 = .ok (.iconst 1, 1) := by decide +kernel
theorem dX11_needYards_2 : decode cX11_needYards 2 = .ok (.if_icmp .lt 9, 3) := by decide +kernel
theorem dX11_needYards_5 : decode cX11_needYards 5 = .ok (.iload_n 1, 1) := by decide +kernel
theorem dX11_needYards_6 : decode cX11_needYards 6 = .ok (.bipush 60, 2) := by decide +kernel
theorem dX11_needYards_8 : decode cX11_needYards 8 = .ok (.if_icmp .le 14, 3) := by decide +kernel
theorem dX11_needYards_11 : decode cX11_needYards 11 = .ok (.new 130, 3) := by decide +kernel
theorem dX11_needYards_14 : decode cX11_needYards 14 = .ok (.dup, 1) := by decide +kernel
theorem dX11_needYards_15 : decode cX11_needYards 15 = .ok (.ldc_w 454, 3) := by decide +kernel
theorem dX11_needYards_18 : decode cX11_needYards 18 = .ok (.invokespecial 134, 3) := by decide +kernel
theorem dX11_needYards_21 : decode cX11_needYards 21 = .ok (.athrow, 1) := by decide +kernel
theorem dX11_needYards_22 : decode cX11_needYards 22 = .ok (.return_, 1) := by decide +kernel
theorem dX11_needLight_0 : decode cX11_needLight 0 = .ok (.iload_n 1, 1) := by decide +kernel
theorem dX11_needLight_1 : decode cX11_needLight 1 = .ok (.ifCond .lt 9, 3) := by decide +kernel
theorem dX11_needLight_4 : decode cX11_needLight 4 = .ok (.iload_n 1, 1) := by decide +kernel
theorem dX11_needLight_5 : decode cX11_needLight 5 = .ok (.bipush 9, 2) := by decide +kernel
theorem dX11_needLight_7 : decode cX11_needLight 7 = .ok (.if_icmp .le 14, 3) := by decide +kernel
theorem dX11_needLight_10 : decode cX11_needLight 10 = .ok (.new 130, 3) := by decide +kernel
theorem dX11_needLight_13 : decode cX11_needLight 13 = .ok (.dup, 1) := by decide +kernel
theorem dX11_needLight_14 : decode cX11_needLight 14 = .ok (.ldc_w 456, 3) := by decide +kernel
theorem dX11_needLight_17 : decode cX11_needLight 17 = .ok (.invokespecial 134, 3) := by decide +kernel
theorem dX11_needLight_20 : decode cX11_needLight 20 = .ok (.athrow, 1) := by decide +kernel
theorem dX11_needLight_21 : decode cX11_needLight 21 = .ok (.return_, 1) := by decide +kernel
theorem dX11_needTrialDays_0 : decode cX11_needTrialDays 0 = .ok (.iload_n 1, 1) := by decide +kernel
theorem dX11_needTrialDays_1 : decode cX11_needTrialDays 1 = .ok (.ifCond .lt 9, 3) := by decide +kernel
theorem dX11_needTrialDays_4 : decode cX11_needTrialDays 4 = .ok (.iload_n 1, 1) := by decide +kernel
theorem dX11_needTrialDays_5 : decode cX11_needTrialDays 5 = .ok (.bipush 40, 2) := by decide +kernel
theorem dX11_needTrialDays_7 : decode cX11_needTrialDays 7 = .ok (.if_icmp .le 14, 3) := by decide +kernel
theorem dX11_needTrialDays_10 : decode cX11_needTrialDays 10 = .ok (.new 130, 3) := by decide +kernel
theorem dX11_needTrialDays_13 : decode cX11_needTrialDays 13 = .ok (.dup, 1) := by decide +kernel
theorem dX11_needTrialDays_14 : decode cX11_needTrialDays 14 = .ok (.ldc_w 458, 3) := by decide +kernel
theorem dX11_needTrialDays_17 : decode cX11_needTrialDays 17 = .ok (.invokespecial 134, 3) := by decide +kernel
theorem dX11_needTrialDays_20 : decode cX11_needTrialDays 20 = .ok (.athrow, 1) := by decide +kernel
theorem dX11_needTrialDays_21 : decode cX11_needTrialDays 21 = .ok (.return_, 1) := by decide +kernel
